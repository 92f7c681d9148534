/** Section 4 on reckonings, hosts and snow; promises 21, 22, 23, 27. */
final class ReckoningEdges {
    private static final int OUTSIDE = BlowOwed.OUTSIDE;
    private static final long LOST_OUTSIDE = -1000000000000000002L;
    private static final int[] FAR_NUMBERS = {-1, -100, Integer.MIN_VALUE, 100000, Integer.MAX_VALUE};
    private final Sentences doc;

    ReckoningEdges(Sentences doc) {
        this.doc = doc;
    }

    void run() {
        dayAndYear();
        both();
        reckoned();
        evenings();
        firstEvening();
        kept();
        keeps();
        days();
        snow();
    }

    private void dayAndYear() {
        doc.says("RECKONINGS: day d is day d left over by YEAR of year d by YEAR (cut); by another reckoning it is what day d and e is by this one "
            + "(e 0 to 99): its day of the year; its year;");
        int[] years = {10, 11, 99, 100, 360, 399, 400};
        int[] later = {0, 1, 11, 98, 99};
        for (int year : years) {
            BlowOwed x = new BlowOwed();
            x.yearOf(year);
            int[] days = {0, 1, year - 12, year - 11, year - 1, year, year + 1, 2 * year - 99, 2 * year - 1, 2 * year, 99998, 99999};
            for (int d : days) {
                for (int e : later) {
                    if (d >= 0) {
                        String told = "year of " + year + ", day " + d + " and " + e;
                        doc.due(told + ": its day", x.reckoned(d, e, 0), (d + e) % year);
                        doc.due(told + ": its year", x.reckoned(d, e, 1), (d + e) / year);
                    }
                }
            }
        }
        BlowOwed x = new BlowOwed();
        doc.due("the last day of a year", x.reckoned(348, 11, 0), 359);
        doc.due("the first day of the next", x.reckoned(349, 11, 0), 0);
        doc.due("of year 0", x.reckoned(348, 11, 1), 0);
        doc.due("of year 1", x.reckoned(349, 11, 1), 1);
    }

    private void both() {
        doc.says("BOTH: of the days from d on, YEAR of them, how many are in one year by both.");
        for (int year : new int[] {10, 11, 98, 99, 100, 360, 400}) {
            BlowOwed x = new BlowOwed();
            x.yearOf(year);
            for (int d : new int[] {0, 1, year - 1, year, 99999}) {
                for (int e : new int[] {0, 1, 9, 10, 11, 97, 98, 99}) {
                    int many = 0;
                    for (int day = d; day < d + year; day++) {
                        many += day / year == (day + e) / year ? 1 : 0;
                    }
                    doc.due("year of " + year + ", day " + d + " and " + e, x.reckoned(d, e, 2), many);
                }
            }
        }
    }

    private void reckoned() {
        doc.says("`int reckoned(int d, int e, int what)`: RECKONINGS: the day of the year (what = 0), the year (1), BOTH (2). "
            + "OUTSIDE: d 0 to 99999, e 0 to 99.");
        BlowOwed x = new BlowOwed();
        for (int what = 0; what < 3; what++) {
            doc.due("d 0, e 0", x.reckoned(0, 0, what), what == 2 ? 360 : 0);
            doc.due("d 99999, e 99", x.reckoned(99999, 99, what), new int[] {18, 278, 261}[what]);
            doc.due("d 100000", x.reckoned(100000, 0, what), OUTSIDE);
            doc.due("e 100", x.reckoned(0, 100, what), OUTSIDE);
            for (int far : FAR_NUMBERS) {
                doc.due("d " + far, x.reckoned(far, 0, what), OUTSIDE);
                doc.due("e " + far, x.reckoned(0, far, what), OUTSIDE);
            }
        }
        doc.due("what 3", x.reckoned(0, 0, 3), OUTSIDE);
        for (int far : FAR_NUMBERS) {
            doc.due("what " + far, x.reckoned(0, 0, far), OUTSIDE);
        }
        Courts.pass(x, 100);
        doc.due("the day that it is does not count", x.reckoned(0, 0, 0), 0);
    }

    private void keptIs(int m, int t, int u, long upper, long lower) {
        BlowOwed x = new BlowOwed();
        doc.due("kept(" + m + ", " + t + ", " + u + ", 0)", x.kept(m, t, u, 0), upper);
        doc.due("kept(" + m + ", " + t + ", " + u + ", 1)", x.kept(m, t, u, 1), lower);
    }

    private void evenings() {
        doc.says("HOST: who stays m evenings (0 to 8) wins 1 each evening: he exchanges it (then it is his by u tenths), or keeps it back: "
            + "with t tenths it is found: then he has nothing of it, and exchanges all that he wins on the evenings behind it; else it is his. "
            + "KEPT: the most that he has in the mean;");
        for (int tenths = 0; tenths <= 10; tenths++) {
            keptIs(0, tenths, 10 - tenths, 0, 1);
            for (int m = 1; m <= 8; m++) {
                // Never found: all is his. All is his by exchange too: he has as much.
                keptIs(m, 0, tenths, m, 1);
                keptIs(m, tenths, 10, m, 1);
            }
        }
        // Always found: he exchanges.
        keptIs(8, 10, 1, 4, 5);
        keptIs(8, 10, 9, 36, 5);
        keptIs(1, 10, 5, 1, 2);
        keptIs(1, 9, 0, 1, 10);
        // Nothing by exchange, found by half: 1/2 + 1/4 + 1/8 ..
        keptIs(2, 5, 0, 3, 4);
        keptIs(8, 5, 0, 255, 256);
        keptIs(2, 9, 0, 11, 100);
        // By 1 and 8 tenths: 9/10; then 1/10 8/10 and 9/10 19/10.
        keptIs(1, 1, 8, 9, 10);
        keptIs(2, 1, 8, 179, 100);
        // By 5 and 6 tenths: exchange, 12/10.
        keptIs(2, 5, 6, 6, 5);
        keptIs(8, 5, 6, 24, 5);
        againstPlain();
    }

    private void againstPlain() {
        BlowOwed x = new BlowOwed();
        Plain plain = new Plain();
        for (int m = 0; m <= 8; m++) {
            for (int t = 0; t <= 10; t++) {
                for (int u = 0; u <= 10; u++) {
                    doc.due("of " + m + ", " + t + ", " + u, x.kept(m, t, u, 0), plain.kept(m, t, u, 0));
                    doc.due("lower of " + m + ", " + t + ", " + u, x.kept(m, t, u, 1), plain.kept(m, t, u, 1));
                }
            }
        }
    }

    private void firstEvening() {
        doc.says("whether he keeps back what he wins on the first evening (1; 0: also if it is as good).");
        BlowOwed x = new BlowOwed();
        for (int m = 1; m <= 8; m++) {
            for (int t = 0; t <= 10; t++) {
                doc.due("as good, " + m + ", " + t, x.keeps(m, t, 10 - t), 0);
                doc.due("worse, " + m + ", " + t, t == 0 ? 0 : x.keeps(m, t, 11 - t), 0);
                doc.due("better, " + m + ", " + t, t == 10 ? 1 : x.keeps(m, t, 9 - t), 1);
            }
        }
    }

    private void kept() {
        doc.says("`long kept(int m, int t, int u, int part)`: KEPT: the mean. OUTSIDE.");
        BlowOwed x = new BlowOwed();
        keptIs(0, 0, 0, 0, 1);
        keptIs(8, 10, 10, 8, 1);
        int[] most = {8, 10, 10, 1};
        for (int place = 0; place < 4; place++) {
            int[] of = {1, 5, 5, 0};
            of[place] = most[place] + 1;
            doc.due("place " + place + " one more", x.kept(of[0], of[1], of[2], of[3]), LOST_OUTSIDE);
            for (int far : FAR_NUMBERS) {
                of[place] = far;
                doc.due("place " + place + ", " + far, x.kept(of[0], of[1], of[2], of[3]), LOST_OUTSIDE);
            }
        }
    }

    private void keeps() {
        doc.says("`int keeps(int m, int t, int u)`: KEPT: the first evening. OUTSIDE: m 1 to 8.");
        BlowOwed x = new BlowOwed();
        doc.due("m 1", x.keeps(1, 0, 0), 1);
        doc.due("m 8", x.keeps(8, 0, 0), 1);
        doc.due("m 8, no", x.keeps(8, 10, 10), 0);
        doc.due("m 0", x.keeps(0, 0, 0), OUTSIDE);
        int[] most = {8, 10, 10};
        for (int place = 0; place < 3; place++) {
            int[] of = {1, 5, 5};
            of[place] = most[place] + 1;
            doc.due("place " + place + " one more", x.keeps(of[0], of[1], of[2]), OUTSIDE);
            for (int far : FAR_NUMBERS) {
                of[place] = far;
                doc.due("place " + place + ", " + far, x.keeps(of[0], of[1], of[2]), OUTSIDE);
            }
        }
    }

    private void snowIs(int m, int k, int t, long upper, long lower) {
        BlowOwed x = new BlowOwed();
        doc.due("snow(" + m + ", " + k + ", " + t + ", 0)", x.snow(m, k, t, 0), upper);
        doc.due("snow(" + m + ", " + k + ", " + t + ", 1)", x.snow(m, k, t, 1), lower);
    }

    private void days() {
        doc.says("SNOW: each day is snowed in with t tenths (0 to 10), each by itself, and does not count: "
            + "that a ROAD of m days (0 to 6) is gone in k days (0 to 10).");
        for (int tenths = 0; tenths <= 10; tenths++) {
            for (int k = 0; k <= 10; k++) {
                snowIs(0, k, tenths, 1, 1);
            }
            for (int m = 1; m <= 6; m++) {
                snowIs(m, m - 1, tenths, 0, 1);
            }
        }
        for (int m = 1; m <= 6; m++) {
            snowIs(m, m, 0, 1, 1);
            snowIs(m, 10, 0, 1, 1);
            snowIs(m, 10, 10, 0, 1);
            snowIs(m, m, 5, 1, 1L << m);
        }
        snowIs(6, 6, 9, 1, 1000000);
        snowIs(1, 10, 5, 1023, 1024);
        snowIs(1, 10, 1, 9999999999L, 10000000000L);
        snowIs(1, 1, 9, 1, 10);
        snowIs(2, 3, 5, 1, 2);
        againstPlainSnow();
    }

    private void againstPlainSnow() {
        BlowOwed x = new BlowOwed();
        Plain plain = new Plain();
        for (int m = 0; m <= 6; m++) {
            for (int k = 0; k <= 10; k++) {
                for (int t = 0; t <= 10; t += k > 6 ? 3 : 1) {
                    doc.due("of " + m + ", " + k + ", " + t, x.snow(m, k, t, 0), plain.snow(m, k, t, 0));
                    doc.due("lower of " + m + ", " + k + ", " + t, x.snow(m, k, t, 1), plain.snow(m, k, t, 1));
                }
            }
        }
    }

    private void snow() {
        doc.says("`long snow(int m, int k, int t, int part)`: SNOW. OUTSIDE.");
        BlowOwed x = new BlowOwed();
        snowIs(0, 0, 0, 1, 1);
        snowIs(0, 0, 10, 1, 1);
        snowIs(6, 10, 10, 0, 1);
        int[] most = {6, 10, 10, 1};
        for (int place = 0; place < 4; place++) {
            int[] of = {1, 5, 5, 0};
            of[place] = most[place] + 1;
            doc.due("place " + place + " one more", x.snow(of[0], of[1], of[2], of[3]), LOST_OUTSIDE);
            for (int far : FAR_NUMBERS) {
                of[place] = far;
                doc.due("place " + place + ", " + far, x.snow(of[0], of[1], of[2], of[3]), LOST_OUTSIDE);
            }
        }
    }
}
