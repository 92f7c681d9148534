/** Section 3; promises 17 to 20. */
final class RoundEdges {
    private static final int NONE = BlowOwed.NONE, UNKNOWN = BlowOwed.UNKNOWN, OUTSIDE = BlowOwed.OUTSIDE;
    private static final int[] FAR_NUMBERS = {-1, -100, Integer.MIN_VALUE, 1000, Integer.MAX_VALUE};
    private final Sentences doc;

    RoundEdges(Sentences doc) {
        this.doc = doc;
    }

    void run() {
        whether();
        most();
        barred();
        round();
        gains();
        losses();
        deaths();
        theLeast();
        hard();
        payments();
        ringsOfKnights();
        settled();
        ring();
    }

    /** A, E of chapel 0, B of chapel 1, C of chapel 2, D of chapel 1, all in chapel 0 on day 2; each road takes two days. */
    private static BlowOwed gathered() {
        BlowOwed x = new BlowOwed();
        x.chapels(3);
        x.yearOf(10);
        x.road(0, 1, 1);
        x.road(0, 2, 1);
        x.road(1, 2, 1);
        int[] chapels = {0, 1, 2, 1, 0};
        for (int knight = 0; knight < chapels.length; knight++) {
            x.knight(knight, chapels[knight], 20, 99, 50);
        }
        Courts.done(x, "B0C0D0..");
        return x;
    }

    private void roundIs(String told, BlowOwed x, int whether, int most, int barred) {
        doc.due(told + ", whether", x.round(0, 0), whether);
        doc.due(told + ", the most", x.round(0, 1), most);
        doc.due(told + ", barred", x.round(0, 2), barred);
    }

    private void roundOf(String court, int whether, int most, int barred) {
        BlowOwed x = gathered();
        Courts.done(x, court);
        roundIs(court, x, whether, most, barred);
    }

    private void whether() {
        doc.says("ROUND: whether a KNIGHT can be at all DEBTS that he owes, on their days (1, 0);");
        roundOf("", 1, 0, NONE);
        roundOf("BA01", 1, 0, NONE);
        roundOf("AB01", 1, 1, NONE);
        roundOf("AB01".repeat(12), 1, 12, NONE);
        roundOf("AB01AD01", 1, 2, NONE);
        roundOf("AB01..AC01..AE01..AD01", 1, 4, NONE);
        roundOf("AB01.AC01", 0, 1, 1);
        roundOf("AB01AC01", 0, 1, 1);
        BlowOwed x = gathered();
        Courts.done(x, "AB01..AC01");
        x.road(1, 2, 2);
        roundIs("four days, by chapel 0 too", x, 0, 1, 1);
        x.road(1, 2, 0);
        roundIs("no road but by chapel 0", x, 0, 1, 1);
        x = gathered();
        Courts.done(x, "AB01....AC01");
        x.road(1, 2, 0);
        roundIs("by chapel 0", x, 1, 2, NONE);
    }

    private void most() {
        doc.says("the most of them;");
        roundOf("AB01.AC01.AE01", 0, 2, 1);
        roundOf("AB01.AC01.AB01.AC01.AB01", 0, 3, 1);
        // The first one is left out for two others.
        roundOf("AB01.AE01AE01", 0, 2, 1);
        roundOf("AB01AB01.AE01", 0, 2, 2);
        roundOf("AB01AC01AE01", 0, 1, 1);
        roundOf("BA01AB01.CA01AC01.DA01AB01", 0, 2, 103);
        roundOf("AB01AC01AB01AC01AB01AC01AB01AC01AB01AC01AB01AB01", 0, 7, 1);
        BlowOwed x = gathered();
        Courts.done(x, "AE01AB01:A1.");
        // Day 13: A is on his road, and comes on day 14.
        roundIs("too late for both", x, 0, 0, NONE);
        Courts.done(x, ".");
        roundIs("they are past", x, 1, 0, NONE);
        x = gathered();
        Courts.done(x, "AB01..AE01");
        Courts.done(x, "E/");
        roundIs("one that is no more does not count", x, 1, 1, NONE);
    }

    private void barred() {
        doc.says("BARRED: the first two of them (100 times the lesser number and the greater) that he can be at each, but not at both; NONE.");
        roundOf("EA01AB01AC01", 0, 1, 102);
        roundOf("AB01AD01AC01", 0, 2, 2);
        roundOf("AB01AB01AB01AE01", 0, 3, 3);
        roundOf("EA01".repeat(10) + "AB01.AC01", 0, 1, 1011);
        roundOf("AB01" + "EA01".repeat(10) + ".AC01", 0, 1, 11);
        roundOf("AB01.AE01.AC01", 0, 2, 1);
        BlowOwed x = gathered();
        Courts.done(x, "AB01..AE01.AB01.AC01");
        x.road(0, 2, 3);
        x.road(1, 2, 3);
        roundIs("0 with 3, before 1 with 2", x, 0, 2, 3);
        x = gathered();
        Courts.done(x, "AB01.AC01.AE01");
        x.road(0, 1, 0);
        x.road(1, 2, 0);
        roundIs("one that can not be at all bars none", x, 0, 1, 102);
        x.road(0, 2, 0);
        roundIs("nor two", x, 0, 1, NONE);
        doc.due("each by itself", x.inTime(0), 4);
    }

    private void round() {
        doc.says("`int round(int knight, int what)`: ROUND: whether (what = 0), the most (1), BARRED (2; NONE). UNKNOWN: also DEAD; OUTSIDE.");
        BlowOwed x = Courts.shortYear();
        roundIs("owes nothing", x, 1, 0, NONE);
        doc.due("not there", x.round(3, 0), UNKNOWN);
        doc.due("no such one", x.round(6, 0), UNKNOWN);
        doc.due("3", x.round(0, 3), OUTSIDE);
        for (int far : FAR_NUMBERS) {
            doc.due("knight " + far, x.round(far, 0), UNKNOWN);
            doc.due("what " + far, x.round(0, far), OUTSIDE);
        }
        Courts.done(x, "CA01AC08AC01");
        for (int what = 0; what < 3; what++) {
            doc.due("dead, " + what, x.round(2, what), UNKNOWN);
        }
        roundIs("the dead one's debts are no more", x, 1, 0, NONE);
    }

    /** A strikes B: by how much, and how much he gains. */
    private void hardIs(int[] ofA, int[] ofB, int worth, int fear, int[] want) {
        BlowOwed x = new BlowOwed();
        x.knight(0, 0, ofA[0], ofA[1], 0);
        x.knight(1, 1, ofB[0], ofB[1], 0);
        String told = "A " + ofA[0] + " bears " + ofA[1] + ", B " + ofB[0] + " bears " + ofB[1] + ", worth " + worth + ", fear " + fear;
        doc.due(told + ": s", x.hard(0, 1, worth, fear, 0), want[0]);
        doc.due(told + ": how much", x.hard(0, 1, worth, fear, 1), want[1] + 10000);
    }

    private static int[] pair(int one, int other) {
        return new int[] {one, other};
    }

    private void gains() {
        doc.says("HARD: one strikes another one by s (0 to his STRENGTH; 0: not at all), as both are, and has it back a YEAR later: "
            + "he gains WORTH (0 to 20) for each of s;");
        for (int strength = 1; strength <= 20; strength++) {
            hardIs(pair(strength, 99), pair(20, 99), 1, 0, pair(strength, strength));
            hardIs(pair(strength, 99), pair(20, 99), 20, 0, pair(strength, 20 * strength));
            hardIs(pair(strength, 99), pair(20, 99), 20, 20, pair(0, 0));
        }
        hardIs(pair(20, 99), pair(20, 99), 0, 0, pair(0, 0));
        hardIs(pair(20, 99), pair(20, 99), 0, 20, pair(0, 0));
        BlowOwed x = Courts.shortYear();
        Courts.done(x, "A1.");
        doc.due("on a road, apart: as both are", x.hard(0, 2, 2, 0, 1), 10016);
        Courts.done(x, ".A0..AC06");
        doc.due("C bears 3 now", x.hard(0, 2, 0, 0, 0), 0);
        doc.due("and is dead by 3", x.hard(0, 2, 2, 20, 1), 10016);
        doc.due("twelve debts do not bar it", hardWithTwelve(), 20);
    }

    private static int hardWithTwelve() {
        BlowOwed x = Courts.strong(2);
        Courts.done(x, "AB01".repeat(12));
        return x.hard(0, 1, 1, 0, 0);
    }

    private void losses() {
        doc.says("if the other one is not DEAD by it, he loses FEAR (0 to 20) for each of what comes back (s, the other's STRENGTH at most),");
        hardIs(pair(20, 99), pair(20, 21), 5, 4, pair(20, 20));
        hardIs(pair(20, 99), pair(20, 20), 5, 4, pair(20, 100));
        hardIs(pair(19, 99), pair(20, 20), 5, 4, pair(19, 19));
        hardIs(pair(20, 99), pair(20, 20), 5, 20, pair(20, 100));
        hardIs(pair(20, 99), pair(20, 21), 5, 20, pair(0, 0));
        hardIs(pair(20, 99), pair(20, 1), 1, 20, pair(20, 20));
        hardIs(pair(1, 99), pair(20, 1), 1, 20, pair(1, 1));
        hardIs(pair(1, 99), pair(20, 2), 1, 20, pair(0, 0));
        hardIs(pair(20, 99), pair(1, 99), 1, 20, pair(0, 0));
        hardIs(pair(20, 99), pair(1, 99), 1, 19, pair(20, 1));
        hardIs(pair(20, 99), pair(19, 99), 20, 20, pair(20, 20));
        hardIs(pair(19, 99), pair(19, 99), 20, 20, pair(0, 0));
        hardIs(pair(20, 99), pair(3, 99), 2, 10, pair(20, 10));
        hardIs(pair(20, 5), pair(4, 99), 5, 2, pair(20, 92));
    }

    private void deaths() {
        doc.says("and 1000 more, if he can not bear that (BEARS is no more than it):");
        hardIs(pair(20, 5), pair(20, 99), 20, 0, pair(4, 80));
        hardIs(pair(20, 5), pair(5, 99), 20, 0, pair(4, 80));
        hardIs(pair(20, 5), pair(4, 99), 20, 0, pair(20, 400));
        hardIs(pair(20, 1), pair(1, 99), 20, 0, pair(0, 0));
        hardIs(pair(20, 2), pair(1, 99), 20, 0, pair(20, 400));
        hardIs(pair(20, 2), pair(20, 99), 20, 19, pair(1, 1));
        hardIs(pair(20, 1), pair(20, 20), 20, 20, pair(20, 400));
        hardIs(pair(20, 1), pair(20, 21), 20, 0, pair(0, 0));
        hardIs(pair(20, 20), pair(20, 99), 1, 0, pair(19, 19));
        hardIs(pair(20, 21), pair(20, 99), 1, 0, pair(20, 20));
    }

    private void theLeast() {
        doc.says("the s by which he gains most, the least; how much.");
        hardIs(pair(20, 99), pair(20, 99), 7, 7, pair(0, 0));
        hardIs(pair(20, 99), pair(20, 10), 0, 7, pair(0, 0));
        hardIs(pair(20, 99), pair(20, 10), 0, 0, pair(0, 0));
        hardIs(pair(20, 99), pair(10, 99), 10, 20, pair(0, 0));
        hardIs(pair(20, 99), pair(10, 99), 11, 20, pair(20, 20));
        hardIs(pair(20, 99), pair(10, 99), 9, 20, pair(0, 0));
    }

    private void hard() {
        doc.says("`int hard(int knight, int other, int worth, int fear, int what)`: HARD: s (what = 0), how much and 10000 (1). "
            + "UNKNOWN: both, also one, or DEAD; OUTSIDE.");
        BlowOwed x = Courts.shortYear();
        doc.due("the edges", x.hard(0, 1, 20, 0, 1), 10160);
        doc.due("the other edges", x.hard(0, 1, 0, 20, 1), 10000);
        doc.due("not there", x.hard(3, 0, 1, 1, 0), UNKNOWN);
        doc.due("the other is not there", x.hard(0, 3, 1, 1, 0), UNKNOWN);
        doc.due("both are one", x.hard(0, 0, 1, 1, 0), UNKNOWN);
        doc.due("6", x.hard(6, 0, 1, 1, 0), UNKNOWN);
        doc.due("worth 21", x.hard(0, 1, 21, 1, 0), OUTSIDE);
        doc.due("fear 21", x.hard(0, 1, 1, 21, 0), OUTSIDE);
        doc.due("what 2", x.hard(0, 1, 1, 1, 2), OUTSIDE);
        for (int far : FAR_NUMBERS) {
            doc.due("knight " + far, x.hard(far, 1, 1, 1, 0), UNKNOWN);
            doc.due("other " + far, x.hard(0, far, 1, 1, 0), UNKNOWN);
            doc.due("worth " + far, x.hard(0, 1, far, 1, 0), OUTSIDE);
            doc.due("fear " + far, x.hard(0, 1, 1, far, 0), OUTSIDE);
            doc.due("what " + far, x.hard(0, 1, 1, 1, far), OUTSIDE);
        }
        Courts.done(x, "AC08AC01");
        doc.due("dead", x.hard(2, 0, 1, 1, 0), UNKNOWN);
        doc.due("the other is dead", x.hard(0, 2, 1, 1, 0), UNKNOWN);
    }

    private void settledIs(String court, int want) {
        BlowOwed x = Courts.strong(6);
        Courts.done(x, court);
        doc.due(court, x.settled(), want);
    }

    private void payments() {
        doc.says("SETTLED: by DEBTS each owes in all what he owes less what is owed to him: "
            + "the fewest payments from one to another by which all are quit.");
        settledIs("", 0);
        settledIs("AB01", 1);
        settledIs("FE20", 1);
        settledIs("AB20BA20", 0);
        settledIs("AB20BA19", 1);
        settledIs("AB05BC05CD05DE05EF05", 1);
        settledIs("AB05BC05CD05DE05EF05FA05", 0);
        settledIs("AB01CD01EF01", 3);
        settledIs("AB01AC02AD04AE08AF16", 5);
        settledIs("BA01CA02DA04EA08FA16", 5);
        settledIs("AB01AC01AD01AE01AF01", 5);
        settledIs("AB02AC03DC02DF05", 3);
        settledIs("AB03AC02DE03DF02", 4);
        settledIs("AB02AC01DB01DC02", 2);
        settledIs("AB03AC04DB05DE02DF01", 4);
        settledIs("AB01".repeat(12), 1);
    }

    private void ringIs(String court, int want) {
        BlowOwed x = Courts.strong(6);
        Courts.done(x, court);
        doc.due(court, x.ring(), want);
    }

    private void ringsOfKnights() {
        doc.says("RING: the fewest KNIGHTS of whom each owes the next one something, the last one the first one (2 at least); NONE.");
        ringIs("", NONE);
        ringIs("AB01", NONE);
        ringIs("AB01AB01", NONE);
        ringIs("AB01BA01", 2);
        ringIs("FE20EF01", 2);
        ringIs("AB01BC01CA01", 3);
        ringIs("DF01FE01ED01", 3);
        ringIs("AB01BC01CD01DA01", 4);
        ringIs("AB01BC01CD01DE01EA01", 5);
        ringIs("AB01BC01CD01DE01EF01FA01", 6);
        ringIs("AB01BC01CD01DE01EF01", NONE);
        ringIs("AB01BC01CD01DE01EF01AF01AE01AD01AC01BD01", NONE);
        ringIs("AB01BC01CD01DE01EF01FA01FD01", 3);
        ringIs("AB01BC01CA01DE01ED01", 2);
        ringIs("AB01BC01CD01DB01", 3);
    }

    private void settled() {
        doc.says("`int settled()`: SETTLED.");
        BlowOwed x = Courts.strong(6);
        doc.due("none", x.settled(), 0);
        Courts.done(x, "AB01CD02EF03");
        doc.due("three", x.settled(), 3);
        Courts.done(x, "BA01");
        doc.due("two", x.settled(), 2);
        Courts.done(x, "D/");
        doc.due("one", x.settled(), 1);
        Courts.done(x, "AB01AC02AD03AE04");
        doc.due("five", x.settled(), 5);
        x.heir(5, 0);
        doc.due("by an heir four", x.settled(), 4);
        Courts.done(x, ";");
        doc.due("none any more", x.settled(), 0);
    }

    private void ring() {
        doc.says("`int ring()`: RING; NONE.");
        BlowOwed x = Courts.strong(6);
        doc.due("none", x.ring(), NONE);
        Courts.done(x, "AB01BC02CA03");
        doc.due("three", x.ring(), 3);
        Courts.done(x, "BA01");
        doc.due("two", x.ring(), 2);
        Courts.done(x, "A/");
        doc.due("none, without what is owed to A", x.ring(), NONE);
        Courts.done(x, "CA02");
        doc.due("three again", x.ring(), 3);
        x.heir(2, 1);
        doc.due("by an heir two", x.ring(), 2);
        Courts.done(x, ";");
        doc.due("none any more", x.ring(), NONE);
        doc.due("nobody there", new BlowOwed().ring(), NONE);
        // A choice (NOTES.md): flinching ends no debt, so what is 0 by it is owed yet.
        x = Courts.strong(2);
        Courts.done(x, "AB01BA01:.A!");
        doc.due("A owes B 0", x.debt(0, 2), 0);
        doc.due("two yet", x.ring(), 2);
    }
}
