/** Section 1 on chapels, roads, the year; promises 1 to 4. */
final class LandEdges {
    private static final int NONE = BlowOwed.NONE, UNKNOWN = BlowOwed.UNKNOWN, OUTSIDE = BlowOwed.OUTSIDE;
    private static final int STATE = BlowOwed.STATE;
    private static final int[] FAR_NUMBERS = {-1, -100, Integer.MIN_VALUE, 1000, Integer.MAX_VALUE};
    private final Sentences doc;

    LandEdges(Sentences doc) {
        this.doc = doc;
    }

    void run() {
        chapelNumbers();
        roadDays();
        yearDays();
        winter();
        twiceAsLong();
        newObject();
        chapels();
        road();
        yearOf();
    }

    private void chapelNumbers() {
        doc.says("CHAPELS 0 to n less 1 (n 2 to 5; 4 at first),");
        BlowOwed x = new BlowOwed();
        doc.due("at first", x.told(1), 4);
        isLastChapel(x, 3);
        for (int n = 2; n <= 5; n++) {
            x = new BlowOwed();
            x.chapels(n);
            doc.due("told(1)", x.told(1), n);
            isLastChapel(x, n - 1);
        }
        doc.due("chapels(1)", x.chapels(1), OUTSIDE);
        doc.due("chapels(0)", x.chapels(0), OUTSIDE);
        doc.due("chapels(6)", x.chapels(6), OUTSIDE);
        for (int n : FAR_NUMBERS) {
            doc.due("chapels(" + n + ")", x.chapels(n), OUTSIDE);
        }
        doc.due("five yet", x.told(1), 5);
    }

    private void isLastChapel(BlowOwed x, int last) {
        doc.due("knight(0, " + last + ")", x.knight(0, last, 1, 1, 0), 1);
        doc.due("knight(1, " + (last + 1) + ")", x.knight(1, last + 1, 1, 1, 0), UNKNOWN);
        doc.due("knight(1, -1)", x.knight(1, -1, 1, 1, 0), UNKNOWN);
        doc.due("knight(1, 0)", x.knight(1, 0, 1, 1, 0), 2);
        doc.due("road(0, " + last + ")", x.road(0, last, 1), 0);
        doc.due("road(0, " + (last + 1) + ")", x.road(0, last + 1, 1), UNKNOWN);
        doc.due("road(" + (last + 1) + ", 0)", x.road(last + 1, 0, 1), UNKNOWN);
        doc.due("road(-1, 0)", x.road(-1, 0, 1), UNKNOWN);
        doc.due("when(0, " + last + ")", x.when(0, last), 0);
        doc.due("when(0, " + (last + 1) + ")", x.when(0, last + 1), UNKNOWN);
        doc.due("when(0, -1)", x.when(0, -1), UNKNOWN);
        doc.due("told of the last one's road", x.told(100 * (1 + last)), 1);
        doc.due("told to the last one", x.told(100 + last), 1);
        doc.due("told of one more", x.told(100 * (2 + last)), OUTSIDE);
        doc.due("told to one more", x.told(101 + last), OUTSIDE);
        doc.due("sets out to the last one", Courts.why(x, "B" + last), NONE);
        Courts.write(x, "B" + (last + 1));
        doc.due("sets out to one more", x.fault(), 1);
    }

    private void roadDays() {
        doc.says("ROADS between two of them of so many DAYS (1 to 99), or none (0; as at first), alike both ways.");
        BlowOwed x = new BlowOwed();
        x.chapels(5);
        for (int one = 0; one < 5; one++) {
            for (int other = 0; other < 5; other++) {
                doc.due("none at first, " + one + " " + other, x.told(100 * (1 + one) + other), one == other ? OUTSIDE : 0);
            }
        }
        for (int other = 1; other < 5; other++) {
            doc.due("road(0, " + other + ", 99)", x.road(0, other, 99), 0);
            doc.due("and back", x.told(100 * (1 + other)), 99);
            doc.due("road(" + other + ", 0, 1)", x.road(other, 0, 1), 99);
            doc.due("and there", x.told(100 + other), 1);
            doc.due("of 100", x.road(0, other, 100), OUTSIDE);
            doc.due("of -1", x.road(0, other, -1), OUTSIDE);
        }
        for (int days : FAR_NUMBERS) {
            doc.due("road(0, 1, " + days + ")", x.road(0, 1, days), OUTSIDE);
        }
        arrives(360, 90, 1, 1);
        arrives(360, 90, 99, 99);
        arrives(360, 0, 1, 2);
        arrives(360, 0, 99, 198);
        x.knight(0, 1, 1, 1, 0);
        doc.due("a road both ways", Courts.why(x, "A0..A1"), NONE);
        x.road(0, 1, 0);
        doc.due("none any more", Courts.why(x, "A0"), 5);
        doc.due("and no day on which he is there", x.when(0, 0), NONE);
    }

    /** Sets out on that day, is under way for so many and not for one less, by what is done and by what is foretold. */
    private void arrives(int year, int day, int road, int days) {
        BlowOwed x = new BlowOwed();
        x.yearOf(year);
        x.road(0, 1, road);
        x.knight(0, 0, 1, 1, 0);
        Courts.pass(x, day);
        String told = "year of " + year + ", day " + day + ", road of " + road;
        doc.due(told + " can be begun", Courts.done(x, "A1"), 1);
        doc.due(told + ", foretold", x.when(0, 1), day + days);
        doc.due(told + " begun", x.state(0, 0), NONE);
        Courts.pass(x, days - 1);
        doc.due(told + ", a day before", x.state(0, 0), NONE);
        Courts.pass(x, 1);
        doc.due(told + ", there", x.state(0, 0), 1);
    }

    private void yearDays() {
        doc.says("A YEAR has 10 to 400 days (360 at first);");
        BlowOwed x = Courts.strong(2);
        x.chapels(4);
        doc.due("at first", new BlowOwed().told(4), 360);
        doc.due("yearOf(9)", x.yearOf(9), OUTSIDE);
        doc.due("yearOf(0)", x.yearOf(0), OUTSIDE);
        doc.due("yearOf(401)", x.yearOf(401), OUTSIDE);
        for (int days : FAR_NUMBERS) {
            doc.due("yearOf(" + days + ")", x.yearOf(days), OUTSIDE);
        }
        for (int days : new int[] {10, 11, 399, 400}) {
            x = Courts.strong(2);
            x.yearOf(days);
            doc.due("told(4)", x.told(4), days);
            Courts.done(x, "AB01");
            doc.due("a debt's day", x.debt(0, 3), days + 1);
            doc.due("the last day of it", x.reckoned(days - 1, 0, 0), days - 1);
            doc.due("the next year", x.reckoned(days, 0, 1), 1);
        }
    }

    private void winter() {
        doc.says("its first 90 (all, if it has fewer) are WINTER:");
        int[][] winters = {
            {360, 0}, {360, 89}, {360, 360}, {360, 449}, {360, 720}, {400, 89}, {400, 400}, {400, 489}, {91, 89}, {91, 91}, {91, 180},
            {90, 0}, {90, 89}, {90, 90}, {90, 179}, {90, 180}, {89, 88}, {89, 89}, {89, 90}, {10, 0}, {10, 9}, {10, 10}, {10, 95}
        };
        for (int[] row : winters) {
            arrives(row[0], row[1], 5, 10);
        }
        int[][] summers = {{360, 90}, {360, 359}, {360, 450}, {360, 719}, {400, 90}, {400, 399}, {400, 490}, {91, 90}, {91, 181}, {92, 91}, {92, 182}};
        for (int[] row : summers) {
            arrives(row[0], row[1], 5, 5);
        }
    }

    private void twiceAsLong() {
        doc.says("a ROAD that is begun on such a day takes twice as long.");
        // The day on which it is begun counts, not those on which he is under way.
        arrives(360, 89, 99, 198);
        arrives(360, 359, 99, 99);
        arrives(360, 359, 1, 1);
        arrives(360, 89, 1, 2);
        BlowOwed x = Courts.shortYear();
        Courts.done(x, "A1");
        x.road(0, 1, 50);
        Courts.pass(x, 1);
        doc.due("a day of a road that was begun as it was", x.state(0, 0), NONE);
        Courts.pass(x, 1);
        doc.due("two days", x.state(0, 0), 1);
    }

    private void newObject() {
        doc.says("`BlowOwed()`: Four CHAPELS without ROADS, nobody is there; day 0.");
        BlowOwed x = new BlowOwed();
        int[] told = {0, 4, 0, 0, 360, 0};
        for (int what = 0; what < told.length; what++) {
            doc.due("told(" + what + ")", x.told(what), told[what]);
        }
        for (int knight = 0; knight < 6; knight++) {
            doc.due("state(" + knight + ", 0)", x.state(knight, 0), UNKNOWN);
        }
        doc.due("chapel 3", x.told(103), 0);
        doc.due("chapel 4", x.told(104), OUTSIDE);
        doc.due("debts", x.debt(-1, 0), 0);
        doc.due("fault", x.fault(), NONE);
        doc.due("settled", x.settled(), 0);
        doc.due("ring", x.ring(), NONE);
        doc.due("nothing is done", x.done(), 0);
        doc.due("no sight", x.forget(), 0);
        doc.due("no sign", x.wipe(), 0);
    }

    private void chapels() {
        doc.says("`int chapels(int n)`: How many CHAPELS: which it was.");
        BlowOwed x = new BlowOwed();
        doc.due("chapels(5)", x.chapels(5), 4);
        doc.due("chapels(2)", x.chapels(2), 5);
        doc.due("chapels(2) again", x.chapels(2), 2);
        doc.due("chapels(3)", x.chapels(3), 2);
        doc.says("ROADS, KNIGHTS, DEBTS, SIGHTS go; it is day 0; YEAR stays. OUTSIDE.");
        x = Courts.shortYear();
        x.seen(0, 1);
        x.knight(3, 0, 1, 1, 0);
        Courts.done(x, "AD01AC02CA01...A1");
        Courts.write(x, "A2");
        doc.due("as many as there were", x.chapels(3), 3);
        int[] told = {2, 3, 0, 0, 10, 0};
        for (int what = 0; what < told.length; what++) {
            doc.due("told(" + what + ")", x.told(what), told[what]);
        }
        doc.due("road 0 1", x.told(101), 0);
        doc.due("road 1 2", x.told(202), 0);
        doc.due("road 2 1", x.told(301), 0);
        doc.due("debts", x.debt(-1, 0), 0);
        doc.due("no sights", x.who(0), 1);
        doc.due("who was on a road comes", x.knight(0, 2, 1, 1, 0), 1);
        doc.due("and is there", x.state(0, 0), 2);
        doc.due("who was dead comes", x.knight(3, 2, 1, 1, 0), 2);
        doc.due("and is not", x.state(3, 3), 0);
        doc.due("chapels(6)", x.chapels(6), OUTSIDE);
        doc.due("both are there", x.told(2), 9);
        x.chapels(5);
        doc.due("road 4 0", x.told(500), 0);
    }

    private void road() {
        doc.says("`int road(int chapel, int other, int days)`: A ROAD of so many DAYS (0: none): which it was. UNKNOWN: also both are one; OUTSIDE.");
        BlowOwed x = new BlowOwed();
        doc.due("none", x.road(3, 0, 0), 0);
        doc.due("none, then 1", x.road(3, 0, 1), 0);
        doc.due("1, then 99", x.road(0, 3, 99), 1);
        doc.due("99, then none", x.road(3, 0, 0), 99);
        doc.due("none again", x.road(0, 3, 0), 0);
        for (int chapel = 0; chapel < 4; chapel++) {
            doc.due("both are one", x.road(chapel, chapel, 1), UNKNOWN);
        }
        doc.due("no such chapel", x.road(4, 0, 1), UNKNOWN);
        doc.due("no such other", x.road(0, 4, 1), UNKNOWN);
        doc.due("neither", x.road(4, 4, 1), UNKNOWN);
        doc.due("100", x.road(3, 0, 100), OUTSIDE);
        doc.due("-1", x.road(3, 0, -1), OUTSIDE);
    }

    private void yearOf() {
        doc.says("`int yearOf(int days)`: YEAR: which it was. OUTSIDE; STATE: there are DEBTS.");
        BlowOwed x = new BlowOwed();
        doc.due("yearOf(400)", x.yearOf(400), 360);
        doc.due("yearOf(10)", x.yearOf(10), 400);
        doc.due("yearOf(10) again", x.yearOf(10), 10);
        x = Courts.shortYear();
        Courts.done(x, "AC01");
        doc.due("a debt", x.yearOf(20), STATE);
        Courts.pass(x, 11);
        doc.due("on its day", x.yearOf(20), STATE);
        Courts.pass(x, 1);
        doc.due("behind its day", x.yearOf(20), 10);
        Courts.done(x, "AC08");
        doc.due("he is dead by it, no debt", x.yearOf(30), 20);
        Courts.write(x, "A1");
        doc.due("knights, days and signs do not bar it", x.yearOf(360), 30);
        doc.due("9", x.yearOf(9), OUTSIDE);
        doc.due("401", x.yearOf(401), OUTSIDE);
    }
}
