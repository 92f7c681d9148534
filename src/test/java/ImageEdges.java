/** Section 4 on a year of courts; promises 28 to 31. */
final class ImageEdges {
    private static final int NONE = BlowOwed.NONE, UNKNOWN = BlowOwed.UNKNOWN, OUTSIDE = BlowOwed.OUTSIDE;
    private static final int STATE = BlowOwed.STATE;
    private static final int[] FAR_NUMBERS = {-1, -100, Integer.MIN_VALUE, 10001, Integer.MAX_VALUE};
    private final Sentences doc;

    ImageEdges(Sentences doc) {
        this.doc = doc;
    }

    void run() {
        draws();
        givesBackElse();
        daysBetween();
        counts();
        nothingInFact();
        year();
        image();
        restore();
        told();
        toldOfKnights();
        toldOfRoads();
    }

    private static int turn(String knights, int seed, int m, int what) {
        BlowOwed x = new BlowOwed();
        x.yearOf(10);
        for (char letter : knights.toCharArray()) {
            x.knight(letter - 'A', 0, 1, 99, 50);
        }
        return x.year(seed, m, what);
    }

    /** Seed, striker and struck one of the first turn. */
    private void draws() {
        doc.says("A YEAR of COURTS by a seed (0 to 9999) of m turns (1 to 99), from all as it is: x becomes (75 x and 74) left over by 65537: "
            + "KNIGHT x left over by 6 strikes KNIGHT x by 6 (cut) left over by 6 by 1, if that can be;");
        Object[][] firsts = {{0, "AC"}, {872, "CE"}, {873, "AC"}, {874, "CD"}, {9999, "AE"}, {9998, "AB"}, {33, "EF"}, {203, "F"}, {881, "A"}};
        for (Object[] row : firsts) {
            int seed = (Integer) row[0];
            String two = (String) row[1];
            doc.due("seed " + seed + ", " + two, turn(two, seed, 1, 0), two.length() == 2 ? 1 : 0);
            doc.due("seed " + seed + ", one of them", turn(two.substring(0, 1), seed, 1, 0), 0);
        }
        // Seed 0: C A, C B, C F, E D, B A, B E, B D, C D, A A, A D.
        int[] blows = {1, 2, 3, 4, 5, 6, 7, 8, 8, 9};
        for (int m = 1; m <= blows.length; m++) {
            doc.due("seed 0, turns " + m, turn("ABCDEF", 0, m, 0), blows[m - 1]);
        }
        doc.due("seed 9999, six turns: E A, F E, D A, B C, E E, E B", turn("ABCDEF", 9999, 6, 0), 5);
        BlowOwed x = new BlowOwed();
        x.road(0, 1, 1);
        x.knight(0, 0, 1, 1, 0);
        x.knight(2, 1, 1, 1, 0);
        doc.due("apart", x.year(0, 1, 0), 0);
        Courts.done(x, "C0.");
        doc.due("on a road", x.year(0, 1, 0), 0);
        Courts.done(x, ".");
        doc.due("in one chapel", x.year(0, 1, 0), 1);
        Courts.done(x, "AC01");
        doc.due("dead", x.year(0, 1, 0), 0);
        x = Courts.strong(3);
        Courts.done(x, "AB01".repeat(12));
        doc.due("twelve debts", x.year(0, 1, 0), 0);
    }

    private void givesBackElse() {
        doc.says("else he gives back, if that can be;");
        BlowOwed x = Courts.strong(3);
        Courts.done(x, "BC02BC01:.");
        doc.due("he strikes, and does not give back", x.year(0, 1, 1), 0);
        doc.due("he strikes", x.year(0, 1, 0), 1);
        x.heir(0, 1);
        doc.due("with none to strike he gives back, once", x.year(0, 1, 1), 1);
        doc.due("and does not strike", x.year(0, 1, 0), 0);
        doc.due("honour of C 6 more, of B 2 more", x.year(0, 1, 2), 10108);
        Courts.done(x, ".");
        doc.due("a day later there is nothing", x.year(0, 1, 1), 0);
        doc.due("honour of C 8 less", x.year(0, 1, 2), 10092);
        x = Courts.strong(3);
        Courts.done(x, "BC01".repeat(12) + ":.");
        doc.due("twelve debts bar the blow, not that", x.year(0, 1, 1), 1);
        x = Courts.strong(1);
        x.knight(1, 0, 1, 9, 0);
        Courts.done(x, "BA01:.");
        doc.due("both are one: he gives back", x.year(881, 1, 1), 1);
        doc.due("then there is none", x.year(881, 1, 2), 10054);
    }

    /** What is owed to A on that day, and is not given back, costs him 4. */
    private static int honourAfter(int seed, int dueIn) {
        BlowOwed x = new BlowOwed();
        x.yearOf(400);
        x.knight(0, 0, 1, 9, 50);
        x.knight(1, 0, 1, 9, 50);
        Courts.done(x, "BA01");
        Courts.pass(x, 401 - dueIn);
        return x.year(seed, 1, 2);
    }

    private void daysBetween() {
        doc.says("then x by 64 (cut) left over by 40 days pass:");
        int[][] days = {{0, 1}, {68, 0}, {102, 0}, {33, 39}, {67, 39}, {872, 23}, {9999, 14}};
        for (int[] row : days) {
            doc.due("seed " + row[0] + ", " + row[1] + " days, one due then", honourAfter(row[0], row[1]), 10100);
            if (row[1] > 0) {
                doc.due("seed " + row[0] + ", one due the day before", honourAfter(row[0], row[1] - 1), 10096);
            }
        }
        BlowOwed x = new BlowOwed();
        x.road(0, 1, 4);
        x.knight(2, 0, 1, 9, 0);
        x.knight(1, 1, 1, 9, 0);
        x.knight(5, 1, 1, 9, 0);
        Courts.done(x, "C1");
        // Seed 0: 1 day, C B, 7 days, C F: eight days are gone just then.
        doc.due("he is on a road", x.year(0, 2, 0), 0);
        doc.due("and comes", x.year(0, 3, 0), 1);
        x.road(0, 1, 5);
        x.chapels(4);
        x.road(0, 1, 5);
        x.knight(2, 0, 1, 9, 0);
        x.knight(5, 1, 1, 9, 0);
        Courts.done(x, "C1");
        doc.due("ten days are too long", x.year(0, 3, 0), 0);
    }

    private void counts() {
        doc.says("how many struck so; how many gave back; HONOUR of all who are there, and 10000; how many are DEAD.");
        for (int what = 0; what < 4; what++) {
            doc.due("nobody is there, " + what, turn("", 9999, 99, what), what == 2 ? 10000 : 0);
        }
        BlowOwed x = new BlowOwed();
        x.yearOf(10);
        x.knight(0, 0, 1, 1, 7);
        x.knight(2, 0, 1, 9, 30);
        x.knight(3, 0, 1, 9, 0);
        Courts.done(x, "CD01");
        doc.due("A is dead", x.year(0, 1, 3), 1);
        doc.due("his honour counts", x.year(0, 1, 2), 10037);
        Courts.done(x, "CA01");
        doc.due("he was dead before", x.year(873, 1, 3), 1);
        doc.due("no blow", x.year(873, 1, 0), 0);
        doc.due("D is owed on day 11, fifteen days pass", x.year(0, 3, 2), 10033);
        Courts.done(x, ";");
        doc.due("below 0 too", x.state(3, 2), 9996);
        x.heir(2, 3);
        doc.due("of A and D", x.year(0, 1, 2), 10003);
        x.heir(0, 3);
        doc.due("below 0 in all", x.year(0, 1, 2), 9996);
        x = Courts.strong(0);
        for (int knight = 0; knight < 6; knight++) {
            x.knight(knight, 0, 1, 1, 0);
        }
        // Seed 0: A, B, F, D die; then B is dead and strikes nobody.
        doc.due("four dead", x.year(0, 7, 3), 4);
        doc.due("by four", x.year(0, 7, 0), 4);
        doc.due("three dead", x.year(0, 3, 3), 3);
    }

    private void nothingInFact() {
        doc.says("Nothing is DONE in fact.");
        for (int what = 0; what < 4; what++) {
            BlowOwed x = Courts.strong(3);
            BlowOwed twin = Courts.strong(3);
            Courts.done(x, "BC02AC01.");
            Courts.done(twin, "BC02AC01.");
            Courts.write(x, "C1A");
            Courts.write(twin, "C1A");
            x.year(0, 99, what);
            doc.due("what " + what, Picture.of(x).equals(Picture.of(twin)) ? 1 : 0, 1);
        }
        BlowOwed x = Courts.strong(6);
        int first = x.year(77, 99, 2);
        doc.due("the same again", x.year(77, 99, 2), first);
        doc.due("blows", x.year(77, 99, 0), x.year(77, 99, 0));
    }

    private void year() {
        doc.says("`int year(int seed, int m, int what)`: A YEAR: blows (what = 0), given back (1), HONOUR (2), DEAD (3). OUTSIDE.");
        BlowOwed x = Courts.strong(6);
        for (int what = 0; what < 4; what++) {
            doc.due("seed 0, one turn, " + what, x.year(0, 1, what), new int[] {1, 0, 10300, 0}[what]);
            doc.due("seed 9999, one turn, 14 days, " + what, x.year(9999, 1, what), new int[] {1, 0, 10296, 0}[what]);
            doc.due("99 turns can be, " + what, x.year(9999, 99, what) >= 0 ? 1 : 0, 1);
            doc.due("seed 10000", x.year(10000, 1, what), OUTSIDE);
            doc.due("no turn", x.year(0, 0, what), OUTSIDE);
            doc.due("100 turns", x.year(0, 100, what), OUTSIDE);
            for (int far : FAR_NUMBERS) {
                doc.due("seed " + far, x.year(far, 1, what), OUTSIDE);
                doc.due("turns " + far, x.year(0, far, what), OUTSIDE);
            }
        }
        doc.due("what 4", x.year(0, 1, 4), OUTSIDE);
        for (int far : FAR_NUMBERS) {
            doc.due("what " + far, x.year(0, 1, far), OUTSIDE);
        }
    }

    private void image() {
        doc.says("`int image(int n)`: All but the PAD is kept in an IMAGE (0, 1): 1. OUTSIDE.");
        BlowOwed x = Courts.shortYear();
        doc.due("2", x.image(2), OUTSIDE);
        for (int far : FAR_NUMBERS) {
            doc.due("" + far, x.image(far), OUTSIDE);
        }
        Courts.done(x, "AC02.A1");
        x.seen(3, 8);
        Courts.write(x, "..");
        doc.due("0", x.image(0), 1);
        Courts.done(x, "..C/");
        x.forget();
        x.seen(0, 1);
        x.forget();
        x.road(0, 1, 9);
        x.heir(2, 1);
        doc.due("1", x.image(1), 1);
        x.chapels(5);
        x.yearOf(50);
        Courts.write(x, "A4");
        x.restore(0);
        int[] told = {2, 3, 7, 1, 10, 1};
        for (int what = 0; what < told.length; what++) {
            doc.due("told(" + what + ")", x.told(what), told[what]);
        }
        doc.due("the pad is as it is", x.fault(), 1);
        doc.due("the road", x.told(101), 1);
        doc.due("who was on a road", x.state(0, 0), NONE);
        doc.due("comes as he would have", x.when(0, 1), 3);
        doc.due("the debt", Courts.debt(x, 0), 2020011L);
        doc.due("the sight", x.who(1), 1);
        x.restore(1);
        doc.due("the other one", x.told(2), 3);
        doc.due("its day", x.told(3), 3);
        doc.due("its road", x.told(101), 9);
        doc.due("its debts", x.debt(-1, 0), 0);
        doc.due("its sights", x.told(5), 0);
        x.seen(0, 6);
        x.image(1);
        x.forget();
        x.seen(1, 7);
        x.restore(1);
        doc.due("a sight of A by 6", x.who(1), 2);
        x.forget();
        x.seen(0, 7);
        x.restore(1);
        doc.due("by 6, not by 7", x.who(1), 2);
        doc.due("kept anew", x.image(0), 1);
        x.chapels(2);
        x.restore(0);
        doc.due("as kept anew", x.told(2), 3);
    }

    private void restore() {
        doc.says("`int restore(int n)`: It is as it was when it was kept: 1. OUTSIDE; STATE: it was not.");
        BlowOwed x = Courts.shortYear();
        doc.due("0 was not", x.restore(0), STATE);
        doc.due("1 was not", x.restore(1), STATE);
        doc.due("2", x.restore(2), OUTSIDE);
        for (int far : FAR_NUMBERS) {
            doc.due("" + far, x.restore(far), OUTSIDE);
        }
        x.image(1);
        doc.due("0 was not yet", x.restore(0), STATE);
        doc.due("1", x.restore(1), 1);
        Courts.done(x, "AC08AC01;");
        doc.due("dead", x.state(2, 3), 1);
        doc.due("1 again", x.restore(1), 1);
        doc.due("not dead", x.state(2, 3), 0);
        doc.due("day 0", x.told(3), 0);
        Courts.done(x, "AC08");
        doc.due("once more", x.restore(1), 1);
        doc.due("an image stays as it was kept", x.state(2, 1), 9);
        x.image(0);
        x.heir(2, 0);
        x.image(1);
        doc.due("0", x.restore(0), 1);
        doc.due("of 0", x.told(2), 7);
        doc.due("1 at last", x.restore(1), 1);
        doc.due("of 1", x.told(2), 3);
        doc.due("who is no more in it", x.state(2, 0), UNKNOWN);
    }

    private void told() {
        doc.says("`int told(int what)`: 0 signs, 1 CHAPELS, 2 KNIGHTS (bits), 3 the day, 4 YEAR, 5 SIGHTS,");
        BlowOwed x = Courts.shortYear();
        x.seen(0, 1);
        Courts.done(x, ":");
        Courts.write(x, "~~~~~~~");
        int[] told = {7, 3, 7, 10, 10, 1};
        for (int what = 0; what < told.length; what++) {
            doc.due("" + what, x.told(what), told[what]);
        }
        for (int what = 6; what < 10; what++) {
            doc.due("" + what, x.told(what), OUTSIDE);
        }
        for (int far : FAR_NUMBERS) {
            doc.due("" + far, x.told(far), OUTSIDE);
        }
    }

    private void toldOfKnights() {
        doc.says("10 times (1 and a KNIGHT who is there) and 0 STRENGTH, 1 CHAPEL;");
        BlowOwed x = new BlowOwed();
        x.chapels(5);
        for (int what = 10; what < 100; what++) {
            doc.due("nobody, " + what, x.told(what), OUTSIDE);
        }
        for (int knight = 0; knight < 6; knight++) {
            x.knight(knight, knight % 5, 20 - knight, 9, 0);
        }
        for (int what = 10; what < 100; what++) {
            int knight = what / 10 - 1;
            int want = knight > 5 || what % 10 > 1 ? OUTSIDE : what % 10 == 0 ? 20 - knight : knight % 5;
            doc.due("all, " + what, x.told(what), want);
        }
        Courts.done(x, "AF09");
        doc.due("of a dead one", x.told(60), 15);
        x.heir(5, 0);
        doc.due("of one who is no more", x.told(60), OUTSIDE);
        doc.due("of one who is no more, his chapel", x.told(61), OUTSIDE);
    }

    private void toldOfRoads() {
        doc.says("100 times (1 and a CHAPEL) and another one: DAYS of the ROAD. OUTSIDE.");
        for (int chapels = 2; chapels <= 5; chapels++) {
            BlowOwed x = new BlowOwed();
            x.chapels(chapels);
            for (int one = 0; one < chapels; one++) {
                for (int other = one + 1; other < chapels; other++) {
                    x.road(one, other, 10 * other + one);
                }
            }
            roadsOf(x, chapels);
        }
    }

    private void roadsOf(BlowOwed x, int chapels) {
        for (int hundred = 1; hundred <= 6; hundred++) {
            for (int rest : new int[] {0, 1, 2, 3, 4, 5, 6, 9, 10, 11, 98, 99}) {
                int one = hundred - 1;
                boolean isRoad = one < chapels && rest < chapels && one != rest;
                int days = 10 * Math.max(one, rest) + Math.min(one, rest);
                doc.due(chapels + " chapels, " + (100 * hundred + rest), x.told(100 * hundred + rest), isRoad ? days : OUTSIDE);
            }
        }
        doc.due("of a seventh hundred", x.told(701), OUTSIDE);
        doc.due("of -100", x.told(-100), OUTSIDE);
        doc.due("of -10", x.told(-10), OUTSIDE);
        doc.due("of -9", x.told(-9), OUTSIDE);
    }
}
