/** Promises 1 to 9: chapels, knights, the pad. */
public final class ChapelsTest {
    private static final int NONE = BlowOwed.NONE, UNKNOWN = BlowOwed.UNKNOWN, OUTSIDE = BlowOwed.OUTSIDE;
    private static final int STATE = BlowOwed.STATE, FULL = BlowOwed.FULL;
    private static final Check CHECK = new Check();

    public static void main(String[] args) {
        aNewObject();
        chapels();
        road();
        yearOf();
        knight();
        heir();
        heirsOfBothSides();
        pad();
        fault();
        CHECK.end();
    }

    private static void due(String call, long got, long want) {
        CHECK.due(call, got, want);
    }

    private static void aNewObject() {
        BlowOwed x = new BlowOwed();
        int[] told = {0, 4, 0, 0, 360, 0};
        for (int what = 0; what < told.length; what++) {
            due("1 told(" + what + ")", x.told(what), told[what]);
        }
        for (int c = 0; c < 4; c++) {
            for (int o = 0; o < 4; o++) {
                due("1 road " + c + o, x.told(100 * (1 + c) + o), c == o ? OUTSIDE : 0);
            }
        }
        due("1 debts", x.debt(-1, 0), 0);
        due("1 fault", x.fault(), NONE);
        due("1 judge", x.judge(0), NONE);
        due("1 done", x.done(), 0);
        due("1 image", x.restore(0), STATE);
        due("1 nobody", x.state(0, 0), UNKNOWN);
    }

    private static void chapels() {
        BlowOwed x = Courts.shortYear();
        due("2 1", x.chapels(1), OUTSIDE);
        due("2 6", x.chapels(6), OUTSIDE);
        due("2 -2147483648", x.chapels(Integer.MIN_VALUE), OUTSIDE);
        due("2 refused changes nothing", x.told(2), 7);
        Courts.done(x, "AC01..");
        x.seen(1, 1);
        Courts.write(x, "AC01");
        x.image(1);
        due("2 5", x.chapels(5), 3);
        due("2 roads go", x.told(101), 0);
        due("2 knights go", x.told(2), 0);
        due("2 debts go", x.debt(-1, 0), 0);
        due("2 sights go", x.told(5), 0);
        due("2 day 0", x.told(3), 0);
        due("2 the year stays", x.told(4), 10);
        due("2 the pad stays", x.told(0), 4);
        due("2 images stay", x.restore(1), 1);
        due("2 as it was kept", x.told(1), 3);
        due("2 2", x.chapels(2), 3);
        due("2 told", x.told(1), 2);
        due("2 no chapel 2", x.road(0, 2, 1), UNKNOWN);
        due("2 5 again", x.chapels(5), 2);
        due("2 chapel 4", x.road(0, 4, 1), 0);
    }

    private static void road() {
        BlowOwed x = new BlowOwed();
        due("3 one", x.road(1, 1, 5), UNKNOWN);
        due("3 no chapel", x.road(4, 0, 5), UNKNOWN);
        due("3 no chapel, other", x.road(0, 4, 5), UNKNOWN);
        due("3 below", x.road(-1, 0, 5), UNKNOWN);
        due("3 unknown before outside", x.road(0, 0, 100), UNKNOWN);
        due("3 -1", x.road(0, 1, -1), OUTSIDE);
        due("3 100", x.road(0, 1, 100), OUTSIDE);
        due("3 99", x.road(0, 1, 99), 0);
        due("3 alike both ways", x.road(1, 0, 7), 99);
        due("3 told", x.told(101), 7);
        due("3 told back", x.told(200), 7);
        due("3 none", x.road(0, 1, 0), 7);
        due("3 told none", x.told(200), 0);
        x.road(2, 3, 8);
        due("3 another one is not touched", x.told(303), 8);
    }

    private static void yearOf() {
        BlowOwed x = new BlowOwed();
        due("4 9", x.yearOf(9), OUTSIDE);
        due("4 401", x.yearOf(401), OUTSIDE);
        due("4 10", x.yearOf(10), 360);
        due("4 400", x.yearOf(400), 10);
        due("4 told", x.told(4), 400);
        x.knight(0, 0, 8, 20, 10);
        x.knight(1, 0, 8, 20, 10);
        Courts.done(x, "AB01");
        due("4 debts", x.yearOf(100), STATE);
        due("4 outside before state", x.yearOf(9), OUTSIDE);
        Courts.done(x, "B/");
        due("4 none any more", x.yearOf(100), 400);
        winterDays(89, 89, 0);
        winterDays(90, 89, 0);
        winterDays(91, 89, 0);
        winterDays(91, 90, 1);
        winterDays(91, 91, 0);
        winterDays(360, 89, 0);
        winterDays(360, 90, 1);
    }

    /** A road of five days takes ten, if it is begun in winter. */
    private static void winterDays(int year, int day, int summer) {
        BlowOwed x = new BlowOwed();
        x.yearOf(year);
        x.road(0, 1, 5);
        x.knight(0, 0, 1, 1, 0);
        Courts.done(x, "........." + ":".repeat((day - 9) / 10) + ".".repeat((day - 9) % 10));
        due("4 day", x.told(3), day);
        Courts.done(x, "A1.....");
        due("4 five days on, year " + year + " day " + day, x.state(0, 0), summer == 1 ? 1 : NONE);
        Courts.done(x, "....");
        due("4 nine days on", x.state(0, 0), summer == 1 ? 1 : NONE);
        Courts.done(x, ".");
        due("4 ten days on", x.state(0, 0), 1);
    }

    private static void knight() {
        BlowOwed x = new BlowOwed();
        due("5 6", x.knight(6, 0, 1, 1, 0), UNKNOWN);
        due("5 -1", x.knight(-1, 0, 1, 1, 0), UNKNOWN);
        due("5 no chapel", x.knight(0, 4, 1, 1, 0), UNKNOWN);
        due("5 unknown before outside", x.knight(0, -1, 0, 0, -1), UNKNOWN);
        due("5 strength 0", x.knight(0, 0, 0, 1, 0), OUTSIDE);
        due("5 strength 21", x.knight(0, 0, 21, 1, 0), OUTSIDE);
        due("5 bears 0", x.knight(0, 0, 1, 0, 0), OUTSIDE);
        due("5 bears 100", x.knight(0, 0, 1, 100, 0), OUTSIDE);
        due("5 honour -1", x.knight(0, 0, 1, 1, -1), OUTSIDE);
        due("5 honour 100", x.knight(0, 0, 1, 1, 100), OUTSIDE);
        due("5 nobody came", x.told(2), 0);
        due("5 the greatest", x.knight(5, 3, 20, 99, 99), 1);
        due("5 the least", x.knight(0, 0, 1, 1, 0), 2);
        due("5 he is there", x.knight(5, 0, 1, 1, 0), STATE);
        due("5 outside before state", x.knight(5, 0, 0, 1, 0), OUTSIDE);
        due("5 bits", x.told(2), 33);
        due("5 strength", x.told(60), 20);
        due("5 chapel", x.told(61), 3);
        due("5 where", x.state(5, 0), 3);
        due("5 bears", x.state(5, 1), 99);
        due("5 honour", x.state(5, 2), 10099);
        due("5 dead", x.state(5, 3), 0);
    }

    private static void heir() {
        BlowOwed x = Courts.shortYear();
        due("6 one", x.heir(0, 0), UNKNOWN);
        due("6 no heir", x.heir(0, 3), UNKNOWN);
        due("6 no knight", x.heir(3, 0), UNKNOWN);
        due("6 outside all", x.heir(-1, 6), UNKNOWN);
        Courts.done(x, "AC05");
        Courts.done(x, "CA01");
        due("6 A is no more", x.heir(0, 1), 2);
        due("6 half of 1 is no more", x.debt(-1, 0), 1);
        due("6 half of 5 is B's", Courts.debt(x, 0), 12020011L);
        due("6 bits", x.told(2), 6);
        due("6 A can come again", x.knight(0, 2, 1, 1, 1), 3);
        due("6 without the debt", x.debt(-1, 0), 1);
        x = Courts.shortYear();
        Courts.done(x, "AC08AC08");
        due("6 a dead heir", x.heir(1, 2), UNKNOWN);
        due("6 of a dead one", x.heir(2, 1), 2);
    }

    private static void heirsOfBothSides() {
        BlowOwed x = Courts.shortYear();
        x.knight(3, 0, 9, 50, 0);
        Courts.done(x, "DA04AC05DC03CA02");
        // What C is owed and owes goes to D; that which D owed to C has D on both sides.
        due("6 C is no more", x.heir(2, 3), 3);
        due("6 three debts less one", x.debt(-1, 0), 3);
        due("6 as it was", Courts.debt(x, 0), 30040011L);
        due("6 owed to D", Courts.debt(x, 1), 3020011L);
        due("6 owed by D", Courts.debt(x, 2), 30010011L);
        // It is now to be met in the heir's chapel.
        x = Courts.shortYear();
        Courts.done(x, "AC06");
        x.heir(2, 1);
        Courts.done(x, "A1:.");
        due("6 in B's own chapel", Courts.done(x, "B="), 1);
        due("6 by three", x.state(0, 1), 17);
        due("6 B's honour", x.state(1, 2), 10008);
    }

    private static void pad() {
        BlowOwed x = new BlowOwed();
        due("7 32", x.say(32), OUTSIDE);
        due("7 127", x.say(127), OUTSIDE);
        due("7 0", x.say(0), OUTSIDE);
        due("7 33", x.say(33), 1);
        due("7 126", x.say(126), 2);
        for (int i = 3; i <= 60; i++) {
            due("7 " + i, x.say('.'), i);
        }
        due("7 full", x.say('.'), FULL);
        due("7 outside before full", x.say(32), OUTSIDE);
        due("7 sixty", x.told(0), 60);
        due("8 sixty went", x.wipe(), 60);
        due("8 none went", x.wipe(), 0);
        due("8 told", x.told(0), 0);
        Courts.write(x, ";".repeat(60));
        due("7 sixty acts", x.done(), 60);
        due("7 six thousand days", x.told(3), 6000);
    }

    private static void fault() {
        String[] good = {"", "AB01", "AB09", "AB10", "AB19", "AB20", "AA01", "A0", "F3", "A=", "A!", "A/", ".:;", "A0B=CD20.F/"};
        for (String text : good) {
            due("9 " + text, faultOf(4, text), NONE);
        }
        Object[][] bad = {
            {"A", 1}, {"AB", 2}, {"AB0", 3}, {"AB1", 3}, {"AB2", 3}, {"AB00", 3}, {"AB21", 3}, {"AB29", 3}, {"AB3", 2},
            {"AB30", 2}, {"AB.", 2}, {"AB0=", 3}, {"AB1A", 3}, {"ABC", 2}, {"A4", 1}, {"A5", 1}, {"A9", 1}, {"G", 0},
            {"a", 0}, {"AG", 1}, {"Aa", 1}, {"A.", 1}, {"A:", 1}, {"1", 0}, {"=", 0}, {"!", 0}, {"/", 0}, {"@", 0},
            {"..x", 2}, {"A=B", 3}, {"A0BC", 4}, {"~", 0}, {"A0x", 2}, {"AB011", 4}, {"A-", 1}, {"<", 0}, {"A?", 1}
        };
        for (Object[] row : bad) {
            due("9 " + row[0], faultOf(4, (String) row[0]), (Integer) row[1]);
        }
        due("9 chapel 4 of 5", faultOf(5, "A4"), NONE);
        due("9 chapel 5 of 5", faultOf(5, "A5"), 1);
        due("9 chapel 1 of 2", faultOf(2, "A1"), NONE);
        due("9 chapel 2 of 2", faultOf(2, "..A2"), 3);
        due("9 sixty signs and more must come", faultOf(4, ".".repeat(59) + "A"), 60);
        due("9 sixty signs", faultOf(4, "AB01".repeat(15)), NONE);
    }

    private static int faultOf(int chapels, String text) {
        BlowOwed x = new BlowOwed();
        x.chapels(chapels);
        Courts.write(x, text);
        return x.fault();
    }
}
