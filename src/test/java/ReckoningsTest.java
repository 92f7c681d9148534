/** Promises 21 to 31: reckonings, hosts, scars, snow, draws, images, what is told. */
public final class ReckoningsTest {
    private static final int NONE = BlowOwed.NONE, UNKNOWN = BlowOwed.UNKNOWN, OUTSIDE = BlowOwed.OUTSIDE;
    private static final int STATE = BlowOwed.STATE, FULL = BlowOwed.FULL;
    private static final long LOST_OUTSIDE = -1000000000000000002L;
    private static final Check CHECK = new Check();

    public static void main(String[] args) {
        reckoned();
        kept();
        scars();
        snow();
        year();
        daysOfAYear();
        images();
        imagesOfSights();
        told();
        CHECK.end();
    }

    private static void due(String call, long got, long want) {
        CHECK.due(call, got, want);
    }

    private static void reckoned() {
        BlowOwed x = new BlowOwed();
        due("21 d -1", x.reckoned(-1, 0, 0), OUTSIDE);
        due("21 d 100000", x.reckoned(100000, 0, 0), OUTSIDE);
        due("21 e -1", x.reckoned(0, -1, 0), OUTSIDE);
        due("21 e 100", x.reckoned(0, 100, 0), OUTSIDE);
        due("21 what 3", x.reckoned(0, 0, 3), OUTSIDE);
        due("21 what -1", x.reckoned(0, 0, -1), OUTSIDE);
        due("21 the last day", x.reckoned(99999, 99, 0), 100098 % 360);
        due("21 its year", x.reckoned(99999, 99, 1), 278);
        due("21 day 349 and 11", x.reckoned(349, 11, 0), 0);
        due("21 year 1", x.reckoned(349, 11, 1), 1);
        due("21 day 348 and 11", x.reckoned(348, 11, 0), 359);
        due("21 year 0", x.reckoned(348, 11, 1), 0);
        due("21 both", x.reckoned(348, 11, 2), 349);
        due("21 alike", x.reckoned(5, 0, 2), 360);
        x.yearOf(10);
        due("21 never in one year", x.reckoned(0, 99, 2), 0);
        due("21 never", x.reckoned(3, 10, 2), 0);
        due("21 one day", x.reckoned(3, 9, 2), 1);
        due("21 year of 10", x.reckoned(3, 9, 0), 2);
        due("21 year of 10, year", x.reckoned(3, 9, 1), 1);
    }

    private static void kept() {
        BlowOwed x = new BlowOwed();
        int[][] wrong = {{-1, 5, 5, 0}, {9, 5, 5, 0}, {1, -1, 5, 0}, {1, 11, 5, 0}, {1, 5, -1, 0}, {1, 5, 11, 0}, {1, 5, 5, 2}, {1, 5, 5, -1}};
        for (int[] row : wrong) {
            due("22 outside", x.kept(row[0], row[1], row[2], row[3]), LOST_OUTSIDE);
        }
        due("22 no evening", x.kept(0, 5, 5, 0), 0);
        due("22 no evening, lower", x.kept(0, 5, 5, 1), 1);
        due("22 one of 4 tenths", x.kept(1, 9, 4, 0), 2);
        due("22 lowest terms", x.kept(1, 9, 4, 1), 5);
        // Two evenings by 2 and 5 tenths: the last one is worth 8/10; first 5/10 + 8/10, or 2/10 5/10 + 8/10 18/10.
        due("22 two", x.kept(2, 2, 5, 0), 77);
        due("22 two, lower", x.kept(2, 2, 5, 1), 50);
        due("23 two", x.keeps(2, 2, 5), 1);
        // By 4 and 5 tenths: the last one 6/10; first 5/10 + 6/10 = 11/10, or 4/10 5/10 + 6/10 16/10 = 116/100.
        due("22 by 4", x.kept(2, 4, 5, 0), 29);
        due("22 by 4, lower", x.kept(2, 4, 5, 1), 25);
        // Early it is not worth it: what is found spoils the rest.
        due("23 the last one", x.keeps(1, 3, 6), 1);
        due("23 as good", x.keeps(1, 4, 6), 0);
        due("23 m 0", x.keeps(0, 4, 6), OUTSIDE);
        due("23 m 9", x.keeps(9, 4, 6), OUTSIDE);
        due("23 t 11", x.keeps(1, 11, 6), OUTSIDE);
        due("23 t -1", x.keeps(1, -1, 6), OUTSIDE);
        due("23 u 11", x.keeps(1, 4, 11), OUTSIDE);
        due("23 u -1", x.keeps(1, 4, -1), OUTSIDE);
        due("23 m 8", x.keeps(8, 0, 9), 1);
    }

    private static void scars() {
        BlowOwed x = Courts.shortYear();
        due("26 3", x.who(3), OUTSIDE);
        due("26 -1", x.who(-1), OUTSIDE);
        due("26 no sight: one row", x.who(0), 1);
        due("26 of nobody", x.who(1), 0);
        due("26 of nobody in all", x.who(2), 0);
        due("24 6", x.seen(6, 1), UNKNOWN);
        due("24 -1", x.seen(-1, 21), UNKNOWN);
        due("24 0", x.seen(0, 0), OUTSIDE);
        due("24 21", x.seen(0, 21), OUTSIDE);
        due("24 who is not there was struck", x.seen(5, 6), 1);
        due("26 A or B", x.who(0), 2);
        due("26 bits", x.who(1), 3);
        due("26 in all", x.who(2), 0);
        due("24 A was struck by 3", x.seen(0, 3), 2);
        // A B, A C, B C.
        due("26 three rows", x.who(0), 3);
        due("26 in some", x.who(1), 7);
        due("26 in all of them nobody", x.who(2), 0);
        due("24 B was struck by 3", x.seen(1, 3), 3);
        // A B C; B C A; A C is barred by B himself.
        due("26 rows of three", x.who(0), 2);
        due("26 all are in all", x.who(2), 7);
        due("24 4", x.seen(2, 1), 4);
        due("26 no rows", x.who(0), 0);
        due("26 some of no rows", x.who(1), 0);
        due("26 all of no rows", x.who(2), 0);
        due("24 5", x.seen(2, 20), 5);
        due("24 6 at most", x.seen(2, 1), 6);
        due("24 full", x.seen(2, 1), FULL);
        due("24 outside before full", x.seen(2, 0), OUTSIDE);
        due("5 sights", x.told(5), 6);
        due("25 six went", x.forget(), 6);
        due("25 none went", x.forget(), 0);
        due("25 one row again", x.who(0), 1);
        BlowOwed six = new BlowOwed();
        for (int k = 0; k < 6; k++) {
            six.knight(k, 0, 20, 1, 0);
            six.seen(k, 20);
        }
        due("26 nobody himself: 265 rows", six.who(0), 265);
        due("26 all in all", six.who(2), 63);
    }

    private static void snow() {
        BlowOwed x = new BlowOwed();
        int[][] wrong = {{-1, 5, 5, 0}, {7, 5, 5, 0}, {1, -1, 5, 0}, {1, 11, 5, 0}, {1, 5, -1, 0}, {1, 5, 11, 0}, {1, 5, 5, 2}, {1, 5, 5, -1}};
        for (int[] row : wrong) {
            due("27 outside", x.snow(row[0], row[1], row[2], row[3]), LOST_OUTSIDE);
        }
        due("27 no road", x.snow(0, 10, 10, 0), 1);
        due("27 no road, lower", x.snow(0, 10, 10, 1), 1);
        due("27 always snow", x.snow(1, 10, 10, 0), 0);
        due("27 always snow, lower", x.snow(1, 10, 10, 1), 1);
        due("27 never snow", x.snow(6, 6, 0, 0), 1);
        due("27 too few days", x.snow(6, 5, 0, 0), 0);
        // Two of three days by 2 tenths: 8 8 8 and 3 times 8 8 2 of 1000.
        due("27 two of three", x.snow(2, 3, 2, 0), 112);
        due("27 two of three, lower", x.snow(2, 3, 2, 1), 125);
        due("27 six of ten by half", x.snow(6, 10, 5, 0), 193);
        due("27 six of ten by half, lower", x.snow(6, 10, 5, 1), 512);
    }

    private static void year() {
        BlowOwed x = new BlowOwed();
        due("28 seed -1", x.year(-1, 1, 0), OUTSIDE);
        due("28 seed 10000", x.year(10000, 1, 0), OUTSIDE);
        due("28 m 0", x.year(0, 0, 0), OUTSIDE);
        due("28 m 100", x.year(0, 100, 0), OUTSIDE);
        due("28 what 4", x.year(0, 1, 4), OUTSIDE);
        due("28 what -1", x.year(0, 1, -1), OUTSIDE);
        due("28 nobody is there", x.year(9999, 99, 2), 10000);
        // Seed 0: x is 74, C strikes A, a day passes; x is 5624, C strikes B, 7 days pass.
        x.yearOf(10);
        x.knight(0, 0, 1, 2, 50);
        x.knight(1, 0, 1, 1, 7);
        x.knight(2, 0, 1, 9, 3);
        due("28 one", x.year(0, 1, 0), 1);
        due("28 two", x.year(0, 2, 0), 2);
        due("28 B is dead", x.year(0, 2, 3), 1);
        due("28 A is not", x.year(0, 1, 3), 0);
        due("28 honour of all", x.year(0, 2, 2), 10060);
        due("28 nothing in fact", x.state(1, 1), 1);
        due("28 no day", x.told(3), 0);
        due("28 no debt", x.debt(-1, 0), 0);
        // With A not there, C gives back on day 11 what D owes him: seed 0 is C's turn first.
        x.chapels(4);
        x.knight(2, 0, 1, 9, 3);
        x.knight(3, 0, 1, 9, 3);
        Courts.done(x, "DC01:.");
        due("28 gives back", x.year(0, 1, 1), 1);
        due("28 no blow", x.year(0, 1, 0), 0);
        due("28 honour 1 and 3 more", x.year(0, 1, 2), 10010);
    }

    /** Seed 0: C strikes A, 1 day; C strikes B, 7 days; C strikes F, 7 days; E strikes D, 9 days. */
    private static void daysOfAYear() {
        for (int year = 13; year <= 14; year++) {
            BlowOwed x = new BlowOwed();
            x.yearOf(year);
            x.knight(0, 0, 9, 9, 20);
            x.knight(2, 0, 9, 9, 30);
            Courts.done(x, "AC01");
            // What C and A owe each other is due on day 14, or 15; fifteen days pass.
            due("28 fifteen days, year " + year, x.year(0, 3, 2), year == 13 ? 10042 : 10050);
            due("28 one blow", x.year(0, 3, 0), 1);
        }
        BlowOwed x = new BlowOwed();
        x.knight(3, 0, 9, 1, 0);
        x.knight(4, 0, 9, 9, 0);
        due("28 not before the fourth turn", x.year(0, 3, 0), 0);
        due("28 E strikes D", x.year(0, 4, 0), 1);
        due("28 D is dead", x.year(0, 4, 3), 1);
        due("28 counted anew", x.year(0, 3, 0), 0);
    }

    private static void imagesOfSights() {
        BlowOwed x = Courts.shortYear();
        x.seen(3, 8);
        x.image(0);
        x.forget();
        x.seen(0, 1);
        due("30 B or C struck A", x.who(1), 6);
        x.restore(0);
        due("30 A struck D", x.who(1), 1);
        x.image(1);
        x.forget();
        x.seen(3, 1);
        x.restore(1);
        due("30 by 8, not by 1", x.who(0), 1);
    }

    private static void images() {
        BlowOwed x = Courts.shortYear();
        due("29 2", x.image(2), OUTSIDE);
        due("29 -1", x.image(-1), OUTSIDE);
        due("30 2", x.restore(2), OUTSIDE);
        due("30 -1", x.restore(-1), OUTSIDE);
        due("30 not kept", x.restore(0), STATE);
        Courts.done(x, "AC02.A1");
        x.seen(3, 4);
        due("29 0", x.image(0), 1);
        due("30 the other one was not", x.restore(1), STATE);
        Courts.done(x, "C/..");
        x.road(0, 1, 50);
        x.forget();
        x.heir(2, 1);
        due("29 1", x.image(1), 1);
        x.chapels(5);
        x.yearOf(77);
        Courts.write(x, "A0");
        due("30 0", x.restore(0), 1);
        due("30 the pad stays", x.told(0), 2);
        int[] told = {2, 3, 7, 1, 10, 1};
        for (int what = 0; what < told.length; what++) {
            due("30 told " + what, x.told(what), told[what]);
        }
        due("30 road", x.told(101), 1);
        due("30 where", x.state(0, 0), NONE);
        due("30 bears", x.state(2, 1), 7);
        due("30 debt", Courts.debt(x, 0), 2020011L);
        due("30 sights", x.who(0), 2);
        Courts.done(x, "..");
        due("30 he comes", x.state(0, 0), 1);
        due("30 again", x.restore(0), 1);
        due("30 an image is not changed", x.state(0, 0), NONE);
        due("30 1", x.restore(1), 1);
        due("30 of the other one", x.told(2), 3);
        due("30 its road", x.told(200), 50);
        due("30 its day", x.told(3), 3);
        due("29 anew", x.image(0), 1);
        due("30 anew", x.restore(0), 1);
        due("30 as kept anew", x.told(3), 3);
    }

    private static void told() {
        BlowOwed x = Courts.shortYear();
        int[] wrong = {-1, 6, 9, 12, 19, 22, 40, 41, 50, 61, 70, 99, 100, 103, 104, 113, 201, 302, 400, 500, 600, 1000, -10, -101,
            Integer.MAX_VALUE, Integer.MIN_VALUE};
        for (int what : wrong) {
            due("31 " + what, x.told(what), OUTSIDE);
        }
        due("31 A's strength", x.told(10), 8);
        due("31 A's chapel", x.told(11), 0);
        due("31 B's chapel", x.told(21), 1);
        due("31 C's strength", x.told(30), 3);
        due("31 0 to 1", x.told(101), 1);
        due("31 0 to 2", x.told(102), 0);
        due("31 2 to 1", x.told(301), 3);
        Courts.done(x, "A1..");
        due("31 his own chapel", x.told(11), 0);
        x.heir(1, 0);
        due("31 he is no more", x.told(20), OUTSIDE);
        due("31 bits", x.told(2), 5);
        due("31 the day", x.told(3), 2);
        Courts.write(x, "xyz");
        due("31 signs", x.told(0), 3);
    }
}
