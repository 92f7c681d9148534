/** Terms: the 512th call, which refusal comes first, fractions, sets. */
final class TermsEdges {
    private static final int UNKNOWN = BlowOwed.UNKNOWN, OUTSIDE = BlowOwed.OUTSIDE;
    private static final int STATE = BlowOwed.STATE, FULL = BlowOwed.FULL, NO = BlowOwed.NO;
    private final Sentences doc;

    TermsEdges(Sentences doc) {
        this.doc = doc;
    }

    void run() {
        fiveHundredAndTwelve();
        doc.says("Calls that are refused answer, the first of these that fits: UNKNOWN -1 (there is no such KNIGHT, CHAPEL), "
            + "OUTSIDE -2 (another number is not as told), NO -5 (as told), STATE -3 (as told), FULL -4.");
        numbers();
        unknownFirst();
        unknownOfDeadOnes();
        outsideBeforeNo();
        outsideBeforeStateAndFull();
        fractions();
        sets();
    }

    private void fiveHundredAndTwelve() {
        doc.says("An object is used for at most 512 calls after it has been made; what later calls answer is free.");
        BlowOwed x = Courts.strong(3);
        int calls = 4;
        for (int round = 0; round < 8; round++) {
            calls += 62;
            doc.due("sixty days passed, call " + calls, Courts.done(x, ";".repeat(60)), 60);
        }
        calls += 6;
        doc.due("a blow, call " + calls, Courts.done(x, "AB20"), 1);
        doc.due("the day, call 507", x.told(3), 48000);
        doc.due("the debt, call 508", x.debt(0, 3), 48011);
        doc.due("a year, call 509", x.year(9999, 99, 3), 0);
        doc.due("in time, call 510", x.inTime(0), 1);
        doc.due("an image, call 511", x.image(1), 1);
        doc.due("restored, call 512", x.restore(1), 1);
        doc.due("that were all calls but six", calls, 506);
    }

    private void numbers() {
        doc.due("UNKNOWN", new BlowOwed().inTime(0), -1);
        doc.due("OUTSIDE", new BlowOwed().who(3), -2);
        doc.due("STATE", new BlowOwed().restore(0), -3);
        BlowOwed x = new BlowOwed();
        Courts.write(x, ".".repeat(60));
        doc.due("FULL", x.say('.'), -4);
        Courts.write(x, "x");
        doc.due("NO", x.done(), -5);
    }

    private void unknownFirst() {
        BlowOwed x = Courts.shortYear();
        Courts.write(x, "x");
        for (int i = 0; i < 6; i++) {
            x.seen(0, 1);
        }
        doc.due("road(0, 3, 100)", x.road(0, 3, 100), UNKNOWN);
        doc.due("road(3, 0, -1)", x.road(3, 0, -1), UNKNOWN);
        doc.due("road(-1, 0, -1)", x.road(-1, 0, -1), UNKNOWN);
        doc.due("road(1, 1, 100)", x.road(1, 1, 100), UNKNOWN);
        doc.due("knight(6, 0, 0, 0, -1)", x.knight(6, 0, 0, 0, -1), UNKNOWN);
        doc.due("knight(3, 3, 21, 100, 100)", x.knight(3, 3, 21, 100, 100), UNKNOWN);
        doc.due("knight(0, 3, 1, 1, 1), who is there", x.knight(0, 3, 1, 1, 1), UNKNOWN);
        doc.due("knight(0, -1, 0, 1, 1), who is there", x.knight(0, -1, 0, 1, 1), UNKNOWN);
        doc.due("state(3, 4)", x.state(3, 4), UNKNOWN);
        doc.due("behind(3, 4), a fault", x.behind(3, 4), UNKNOWN);
        doc.due("behind(3, 0), a fault", x.behind(3, 0), UNKNOWN);
        doc.due("round(3, 3)", x.round(3, 3), UNKNOWN);
        doc.due("hard(3, 0, 21, 21, 2)", x.hard(3, 0, 21, 21, 2), UNKNOWN);
        doc.due("hard(0, 3, -1, 1, 0)", x.hard(0, 3, -1, 1, 0), UNKNOWN);
        doc.due("hard(1, 1, 1, -1, 0)", x.hard(1, 1, 1, -1, 0), UNKNOWN);
        doc.due("seen(6, 21), full", x.seen(6, 21), UNKNOWN);
        doc.due("seen(6, 1), full", x.seen(6, 1), UNKNOWN);
        doc.due("seen(-1, 0)", x.seen(-1, 0), UNKNOWN);
    }

    private void unknownOfDeadOnes() {
        BlowOwed x = Courts.shortYear();
        Courts.done(x, "AC08AC01");
        doc.due("round of a dead one, what 3", x.round(2, 3), UNKNOWN);
        doc.due("hard by a dead one, what 2", x.hard(2, 0, 21, 1, 2), UNKNOWN);
        doc.due("hard on a dead one, fear 21", x.hard(0, 2, 1, 21, 0), UNKNOWN);
        doc.due("state of a dead one, what 4", x.state(2, 4), OUTSIDE);
        doc.due("behind of a dead one, what 4", x.behind(2, 4), OUTSIDE);
    }

    private void outsideBeforeNo() {
        BlowOwed x = Courts.shortYear();
        for (String text : new String[] {"A", "A=", "AC01AC09"}) {
            Courts.write(x, text);
            doc.due("judge(2), " + text, x.judge(2), OUTSIDE);
            doc.due("judge(-1), " + text, x.judge(-1), OUTSIDE);
            doc.due("behind(0, 4), " + text, x.behind(0, 4), OUTSIDE);
            doc.due("behind(0, -1), " + text, x.behind(0, -1), OUTSIDE);
            doc.due("behind(0, 0), " + text, x.behind(0, 0), NO);
        }
    }

    private void outsideBeforeStateAndFull() {
        BlowOwed x = Courts.shortYear();
        Courts.done(x, "AC01");
        doc.due("yearOf(9), debts", x.yearOf(9), OUTSIDE);
        doc.due("yearOf(401), debts", x.yearOf(401), OUTSIDE);
        doc.due("yearOf(10), debts", x.yearOf(10), STATE);
        doc.due("knight(0, 0, 0, 1, 1), who is there", x.knight(0, 0, 0, 1, 1), OUTSIDE);
        doc.due("knight(0, 0, 1, 100, 1), who is there", x.knight(0, 0, 1, 100, 1), OUTSIDE);
        doc.due("knight(0, 0, 1, 1, -1), who is there", x.knight(0, 0, 1, 1, -1), OUTSIDE);
        doc.due("knight(0, 0, 1, 1, 1), who is there", x.knight(0, 0, 1, 1, 1), STATE);
        doc.due("restore(2), none kept", x.restore(2), OUTSIDE);
        doc.due("restore(-1), none kept", x.restore(-1), OUTSIDE);
        Courts.write(x, ";".repeat(60));
        doc.due("say(32), full", x.say(32), OUTSIDE);
        doc.due("say(127), full", x.say(127), OUTSIDE);
        doc.due("say(33), full", x.say(33), FULL);
        for (int i = 0; i < 6; i++) {
            x.seen(0, 1);
        }
        doc.due("seen(0, 0), full", x.seen(0, 0), OUTSIDE);
        doc.due("seen(0, 21), full", x.seen(0, 21), OUTSIDE);
        doc.due("seen(0, 1), full", x.seen(0, 1), FULL);
    }

    private void fractions() {
        doc.says("Fractions are told in lowest terms by part: 0 the upper, 1 the lower number; refused with LOST and the refusal.");
        BlowOwed x = new BlowOwed();
        for (int m = 0; m <= 8; m++) {
            for (int t = 0; t <= 10; t++) {
                for (int u = 0; u <= 10; u++) {
                    lowest("kept(" + m + ", " + t + ", " + u + ")", x.kept(m, t, u, 0), x.kept(m, t, u, 1));
                }
            }
        }
        for (int m = 0; m <= 6; m++) {
            for (int k = 0; k <= 10; k++) {
                for (int t = 0; t <= 10; t++) {
                    lowest("snow(" + m + ", " + k + ", " + t + ")", x.snow(m, k, t, 0), x.snow(m, k, t, 1));
                }
            }
        }
        long refused = -1000000000000000000L - 2;
        doc.due("kept, part 2", x.kept(1, 5, 5, 2), refused);
        doc.due("kept, part -1", x.kept(1, 5, 5, -1), refused);
        doc.due("snow, part 2", x.snow(1, 5, 5, 2), refused);
        doc.due("snow, part -1", x.snow(1, 5, 5, -1), refused);
    }

    private void lowest(String call, long upper, long lower) {
        long a = Math.max(upper, lower);
        long b = Math.min(upper, lower);
        while (b > 0) {
            long rest = a % b;
            a = b;
            b = rest;
        }
        doc.due(call + ": what divides both", a, 1);
        doc.due(call + ": the lower number is above 0", lower > 0 ? 1 : 0, 1);
    }

    private void sets() {
        doc.says("Sets are bits.");
        for (int set = 0; set < 64; set++) {
            BlowOwed x = new BlowOwed();
            for (int knight = 0; knight < 6; knight++) {
                if ((set >> knight & 1) == 1) {
                    x.knight(knight, 0, 1, 1, 0);
                }
            }
            doc.due("told(2)", x.told(2), set);
        }
        BlowOwed x = Courts.strong(6);
        x.seen(0, 1);
        doc.due("who(1)", x.who(1), 62);
        Courts.done(x, "AB01BA01AC01CA01AD01DA01AE01EA01AF01FA01FB01AF01");
        doc.due("inTime(0): the even ones, and the twelfth", x.inTime(0), 0x955);
        doc.due("inTime(5)", x.inTime(5), 0x600);
        doc.due("inTime(1)", x.inTime(1), 2);
    }
}
