/** Section 4 on scars; promises 24 to 26. */
final class ScarEdges {
    private static final int UNKNOWN = BlowOwed.UNKNOWN, OUTSIDE = BlowOwed.OUTSIDE, FULL = BlowOwed.FULL;
    private static final int[] FAR_NUMBERS = {-1, -100, Integer.MIN_VALUE, 1000, Integer.MAX_VALUE};
    private final Sentences doc;

    ScarEdges(Sentences doc) {
        this.doc = doc;
    }

    void run() {
        sights();
        strikers();
        noTwoTheSame();
        someAndAll();
        seen();
        forget();
        who();
    }

    private void whoIs(String told, BlowOwed x, int many, int some, int all) {
        doc.due(told + ": how many", x.who(0), many);
        doc.due(told + ": in some", x.who(1), some);
        doc.due(told + ": in all", x.who(2), all);
    }

    private void sights() {
        doc.says("SCARS: SIGHTS, 6 at most: a KNIGHT was struck by so much (1 to 20).");
        BlowOwed x = Courts.strong(6);
        doc.due("by 0", x.seen(0, 0), OUTSIDE);
        doc.due("by 21", x.seen(0, 21), OUTSIDE);
        for (int i = 0; i < 6; i++) {
            doc.due("sight " + i, x.seen(i, i % 2 == 0 ? 1 : 20), i + 1);
        }
        doc.due("a seventh one", x.seen(0, 1), FULL);
        whoIs("six sights", x, 265, 63, 63);
    }

    private void strikers() {
        doc.says("WHO: rows of strikers, one for each SIGHT, who are there, not himself, of as much STRENGTH at least,");
        BlowOwed x = new BlowOwed();
        whoIs("no sight", x, 1, 0, 0);
        x.seen(0, 10);
        whoIs("nobody is there", x, 0, 0, 0);
        x.knight(0, 0, 20, 9, 0);
        whoIs("only himself", x, 0, 0, 0);
        x.knight(1, 3, 9, 1, 0);
        whoIs("one of 9", x, 0, 0, 0);
        x.knight(5, 3, 10, 9, 0);
        whoIs("one of 10", x, 1, 32, 32);
        x.knight(4, 2, 11, 9, 0);
        whoIs("one of 11", x, 2, 48, 0);
        x.heir(5, 4);
        whoIs("he is no more", x, 1, 16, 16);
        x.forget();
        x.seen(3, 20);
        whoIs("by 20, on one who is not there", x, 1, 1, 1);
        x.forget();
        x.seen(0, 1);
        whoIs("by 1", x, 2, 18, 0);
        x.knight(3, 3, 1, 1, 0);
        whoIs("one of 1, elsewhere", x, 3, 26, 0);
        x = Courts.shortYear();
        Courts.done(x, "AC08AC01");
        x.seen(1, 3);
        whoIs("a dead one is there", x, 2, 5, 0);
        x.seen(2, 1);
        whoIs("and was struck", x, 3, 7, 0);
    }

    private void noTwoTheSame() {
        doc.says("no two SIGHTS the same:");
        BlowOwed x = Courts.strong(3);
        x.seen(0, 1);
        x.seen(0, 1);
        whoIs("B C, C B", x, 2, 6, 6);
        x.seen(0, 1);
        whoIs("three by two", x, 0, 0, 0);
        x.forget();
        x.seen(0, 1);
        x.seen(1, 1);
        x.seen(2, 1);
        whoIs("three in rings", x, 2, 7, 7);
        x.seen(5, 1);
        whoIs("four by three", x, 0, 0, 0);
    }

    private void someAndAll() {
        doc.says("how many; KNIGHTS who are in some of them, as bits; in all.");
        BlowOwed x = Courts.strong(6);
        int[] rows = {1, 5, 20, 60, 120, 120};
        for (int many = 0; many < rows.length; many++) {
            whoIs(many + " sights of A", x, rows[many], many == 0 ? 0 : 62, many == 5 ? 62 : 0);
            x.seen(0, 1);
        }
        whoIs("six of A", x, 0, 0, 0);
        x.chapels(2);
        x.knight(0, 0, 20, 1, 0);
        x.knight(1, 0, 5, 1, 0);
        x.knight(2, 0, 5, 1, 0);
        x.seen(5, 6);
        x.seen(5, 5);
        whoIs("A, then B or C", x, 2, 7, 1);
    }

    private void seen() {
        doc.says("`int seen(int knight, int much)`: A SIGHT more: how many. UNKNOWN: KNIGHT 0 to 5; OUTSIDE; FULL.");
        BlowOwed x = new BlowOwed();
        doc.due("6", x.seen(6, 1), UNKNOWN);
        doc.due("by 0", x.seen(0, 0), OUTSIDE);
        doc.due("by 21", x.seen(0, 21), OUTSIDE);
        for (int far : FAR_NUMBERS) {
            doc.due("knight " + far, x.seen(far, 1), UNKNOWN);
            doc.due("by " + far, x.seen(0, far), OUTSIDE);
        }
        for (int knight = 0; knight < 6; knight++) {
            doc.due(knight + ", who is not there", x.seen(knight, knight == 0 ? 1 : 20), knight + 1);
        }
        doc.due("full", x.seen(5, 20), FULL);
        doc.due("full again", x.seen(0, 1), FULL);
        doc.due("six", x.told(5), 6);
    }

    private void forget() {
        doc.says("`int forget()`: SIGHTS go: how many there were.");
        BlowOwed x = Courts.strong(2);
        doc.due("none", x.forget(), 0);
        x.seen(0, 1);
        doc.due("one", x.forget(), 1);
        whoIs("none then", x, 1, 0, 0);
        for (int i = 0; i < 7; i++) {
            x.seen(1, 20);
        }
        doc.due("six", x.forget(), 6);
        doc.due("none any more", x.forget(), 0);
        doc.due("told", x.told(5), 0);
        doc.due("there is room", x.seen(1, 2), 1);
        whoIs("A struck B", x, 1, 1, 1);
    }

    private void who() {
        doc.says("`int who(int what)`: WHO: how many (what = 0), KNIGHTS in some (1), in all (2; 0: there are no rows). OUTSIDE.");
        BlowOwed x = Courts.strong(2);
        whoIs("no sights: one row of nobody", x, 1, 0, 0);
        x.seen(0, 20);
        whoIs("one", x, 1, 2, 2);
        x.seen(0, 20);
        whoIs("no rows", x, 0, 0, 0);
        doc.due("3", x.who(3), OUTSIDE);
        for (int far : FAR_NUMBERS) {
            doc.due("" + far, x.who(far), OUTSIDE);
        }
    }
}
