/** Promises 17 to 20: rounds, how hard to strike, payments, rings. */
public final class RoundsTest {
    private static final int NONE = BlowOwed.NONE, UNKNOWN = BlowOwed.UNKNOWN, OUTSIDE = BlowOwed.OUTSIDE;
    private static final Check CHECK = new Check();

    public static void main(String[] args) {
        roundRefused();
        roundOfThree();
        hardRefused();
        hard();
        settled();
        ring();
        CHECK.end();
    }

    private static void due(String call, long got, long want) {
        CHECK.due(call, got, want);
    }

    private static void roundRefused() {
        BlowOwed x = Courts.shortYear();
        due("17 unknown first", x.round(3, 9), UNKNOWN);
        due("17 6", x.round(6, 0), UNKNOWN);
        due("17 3", x.round(0, 3), OUTSIDE);
        due("17 -1", x.round(0, -1), OUTSIDE);
        due("17 owes nothing", x.round(0, 0), 1);
        due("17 none is the most", x.round(0, 1), 0);
        due("17 none barred", x.round(0, 2), NONE);
        Courts.done(x, "AC08AC08");
        due("17 dead", x.round(2, 0), UNKNOWN);
    }

    /** All are in chapel 0 on day 0, A owes to B of chapel 1, to C of chapel 2, to D of chapel 1. */
    private static void roundOfThree() {
        BlowOwed x = new BlowOwed();
        x.chapels(3);
        x.yearOf(10);
        x.road(0, 1, 1);
        x.road(0, 2, 1);
        x.road(1, 2, 1);
        x.knight(0, 0, 5, 50, 0);
        x.knight(1, 1, 5, 50, 0);
        x.knight(2, 2, 5, 50, 0);
        x.knight(3, 1, 5, 50, 0);
        Courts.done(x, "B0C0D0..");
        Courts.done(x, "AB01AC01AD01.AB02.AC02");
        // Day 13: chapels 1, 2, 1; day 14: chapel 1; day 15: chapel 2. A road takes two days.
        due("16 each by itself", x.inTime(0), 31);
        due("17 not all", x.round(0, 0), 0);
        due("17 chapel 1 on 13, 13, 14; not 2 on 15", x.round(0, 1), 3);
        due("17 0 and 1", x.round(0, 2), 1);
        x.heir(2, 1);
        // C's are B's now, by half: nothing of 1, 1 of 2 on day 15 in chapel 1.
        due("17 all in chapel 1", x.round(0, 0), 1);
        due("17 four", x.round(0, 1), 4);
        due("17 none barred", x.round(0, 2), NONE);
        x = new BlowOwed();
        x.chapels(3);
        x.yearOf(10);
        x.road(0, 1, 1);
        x.road(0, 2, 1);
        x.knight(0, 0, 5, 50, 0);
        x.knight(1, 1, 5, 50, 0);
        x.knight(2, 2, 5, 50, 0);
        x.knight(4, 0, 5, 50, 0);
        Courts.done(x, "B0C0..");
        Courts.done(x, "EA01AB01..AE01..AC01");
        due("17 1, then 0, then 2", x.round(0, 0), 1);
        x.road(0, 1, 2);
        due("17 four days from 1 to 0", x.round(0, 0), 0);
        due("17 the most", x.round(0, 1), 2);
        due("17 debts 1 and 2", x.round(0, 2), 102);
    }

    private static void hardRefused() {
        BlowOwed x = Courts.shortYear();
        due("18 no knight", x.hard(3, 0, 1, 1, 0), UNKNOWN);
        due("18 no other", x.hard(0, 6, 1, 1, 0), UNKNOWN);
        due("18 one", x.hard(0, 0, 1, 1, 0), UNKNOWN);
        due("18 unknown first", x.hard(0, 0, 21, 1, 2), UNKNOWN);
        due("18 worth", x.hard(0, 1, 21, 1, 0), OUTSIDE);
        due("18 worth -1", x.hard(0, 1, -1, 1, 0), OUTSIDE);
        due("18 fear", x.hard(0, 1, 1, 21, 0), OUTSIDE);
        due("18 fear -1", x.hard(0, 1, 1, -1, 0), OUTSIDE);
        due("18 what", x.hard(0, 1, 1, 1, 2), OUTSIDE);
        due("18 what -1", x.hard(0, 1, 1, 1, -1), OUTSIDE);
        due("18 the edges", x.hard(0, 1, 20, 20, 1), 10040);
        Courts.done(x, "AC08AC08");
        due("18 dead", x.hard(2, 0, 1, 1, 0), UNKNOWN);
        due("18 a dead other", x.hard(0, 2, 1, 1, 0), UNKNOWN);
    }

    private static void hard() {
        BlowOwed x = Courts.shortYear();
        // A: 8, bears 20; B: 6, bears 12; C: 3, bears 9. Places do not count.
        due("18 no gain: the least", x.hard(0, 1, 3, 3, 0), 8);
        due("18 6 come back of 8", x.hard(0, 1, 3, 3, 1), 10006);
        due("18 as good: the least", x.hard(1, 0, 3, 3, 0), 0);
        due("18 nothing", x.hard(1, 0, 3, 3, 1), 10000);
        due("18 fear is more", x.hard(1, 0, 3, 4, 0), 0);
        due("18 worth is more", x.hard(1, 0, 4, 3, 0), 6);
        due("18 by one each", x.hard(1, 0, 4, 3, 1), 10006);
        x.knight(3, 0, 20, 3, 0);
        due("18 D bears 3: two at most", x.hard(3, 0, 5, 1, 0), 20);
        due("18 A is dead by 20", x.hard(3, 0, 5, 1, 1), 10100);
        x.knight(4, 0, 19, 99, 0);
        due("18 E is not: two", x.hard(3, 4, 5, 1, 0), 2);
        due("18 two by four", x.hard(3, 4, 5, 1, 1), 10008);
        x.knight(5, 0, 2, 99, 0);
        due("18 F gives back two at most", x.hard(3, 5, 5, 1, 0), 20);
        due("18 and that can be borne", x.hard(3, 5, 5, 1, 1), 10098);
        due("18 worth 0", x.hard(3, 5, 0, 0, 0), 0);
    }

    private static BlowOwed sixInOne() {
        BlowOwed x = new BlowOwed();
        for (int k = 0; k < 6; k++) {
            x.knight(k, 0, 20, 99, 0);
        }
        return x;
    }

    private static int settledBy(String text) {
        BlowOwed x = sixInOne();
        Courts.done(x, text);
        return x.settled();
    }

    private static int ringOf(String text) {
        BlowOwed x = sixInOne();
        Courts.done(x, text);
        return x.ring();
    }

    private static void settled() {
        due("19 none", settledBy(""), 0);
        due("19 one", settledBy("AB05"), 1);
        due("19 both ways, quit", settledBy("AB05BA05"), 0);
        due("19 both ways", settledBy("AB05BA03"), 1);
        due("19 a chain", settledBy("AB05BC05CD05"), 1);
        due("19 a ring", settledBy("AB05BC05CA05"), 0);
        due("19 three pairs", settledBy("AB05CD06EF07"), 3);
        due("19 one to five", settledBy("AB01AC02AD03AE04AF05"), 5);
        due("19 five, by groups four", settledBy("AB03AC04DB05DE02"), 4);
        due("19 two groups in six", settledBy("AB03AC04DE05DF06"), 4);
        due("19 pairs that hide: A 5 to D, C 3 to B", settledBy("AB02AD03CB01CD02"), 2);
        due("19 two pairs of equal sums", settledBy("AB03AC02DC03"), 2);
    }

    private static void ring() {
        due("20 none", ringOf(""), NONE);
        due("20 a chain", ringOf("AB01BC01CD01AD01"), NONE);
        due("20 two", ringOf("AB01BA01"), 2);
        due("20 three", ringOf("AB01BC01CA01"), 3);
        due("20 four", ringOf("AB01BC01CD01DA01"), 4);
        due("20 five", ringOf("BC01CD01DE01EF01FB01AB01"), 5);
        due("20 six", ringOf("AB01BC01CD01DE01EF01FA01"), 6);
        due("20 the fewest", ringOf("AB01BC01CD01DA01EF01FD01DE01"), 3);
        due("20 not out of the first", ringOf("AB01BC01CD01DB01"), 3);
    }
}
