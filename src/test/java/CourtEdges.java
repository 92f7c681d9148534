/** Section 2; promises 10 to 16. */
final class CourtEdges {
    private static final int NONE = BlowOwed.NONE, UNKNOWN = BlowOwed.UNKNOWN, OUTSIDE = BlowOwed.OUTSIDE;
    private static final int NO = BlowOwed.NO;
    private static final int[] FAR_NUMBERS = {-1, -100, Integer.MIN_VALUE, 1000, Integer.MAX_VALUE};
    private final Sentences doc;

    CourtEdges(Sentences doc) {
        this.doc = doc;
    }

    void run() {
        judged();
        isDone();
        behindIt();
        orderOfDebts();
        firstDay();
        waiting();
        eachByItself();
        judge();
        done();
        state();
        behind();
        debt();
        when();
        inTime();
    }

    private void judged() {
        doc.says("JUDGED: of a COURT the first ACT (from 0 on; : and ; are one each) that can not be, and why.");
        BlowOwed x = Courts.shortYear();
        doc.due("the first", Courts.why(x, "AA01"), 1);
        doc.due("behind days", Courts.why(x, ".:;AB01"), 303);
        doc.due("the first of two", Courts.why(x, "AC09AA01"), 4);
        doc.due("behind acts of two and four signs", Courts.why(x, "A1..AB02A0B="), 506);
        doc.due("the 59th", Courts.why(x, ".".repeat(58) + "A0"), 5805);
        doc.due("the 57th", Courts.why(x, ";".repeat(56) + "AC09"), 5604);
        doc.due("none", Courts.why(x, "AC08"), NONE);
        doc.due("of no acts", Courts.why(x, ""), NONE);
    }

    private void isDone() {
        doc.says("DONE: all is so then.");
        BlowOwed x = Courts.shortYear();
        Courts.done(x, "AC01A1:");
        doc.due("where", x.state(0, 0), 1);
        doc.due("bears", x.state(2, 1), 8);
        doc.due("the day", x.told(3), 10);
        doc.due("the debt", Courts.debt(x, 0), 2010011L);
        doc.due("roads stay", x.told(101), 1);
    }

    private void behindIt() {
        doc.says("BEHIND, likewise, not being DONE: of a KNIGHT where he is (NONE: on a ROAD), how much he BEARS, HONOUR, whether he is DEAD.");
        BlowOwed x = Courts.shortYear();
        Courts.write(x, "AC08AC01A1.");
        int[] ofA = {NONE, 20, 10010, 0};
        int[] ofC = {0, 0, 10000, 1};
        for (int what = 0; what < 4; what++) {
            doc.due("of A, " + what, x.behind(0, what), ofA[what]);
            doc.due("of C, " + what, x.behind(2, what), ofC[what]);
        }
        int[] inFact = {0, 9, 10000, 0};
        for (int what = 0; what < 4; what++) {
            doc.due("in fact C's " + what, x.state(2, what), inFact[what]);
        }
        doc.due("A has not set out", x.state(0, 0), 0);
        doc.due("no day has passed", x.told(3), 0);
        doc.due("the signs stay", x.told(0), 11);
        Courts.write(x, "A1..");
        doc.due("there", x.behind(0, 0), 1);
        Courts.write(x, "AC01:..");
        doc.due("below 0", x.behind(2, 2), 9996);
        Courts.write(x, "");
        doc.due("behind nothing", x.behind(2, 1), 9);
    }

    private void orderOfDebts() {
        doc.says("DEBTS in the order in which they came: the STRIKER, the STRUCK one, how much, on which day.");
        BlowOwed x = Courts.strong(6);
        Courts.done(x, "FE20.AB01AC02.DE03EF04");
        long[] all = {54200011L, 1010012L, 2020012L, 34030013L, 45040013L};
        for (int i = 0; i < all.length; i++) {
            doc.due("debt " + i, Courts.debt(x, i), all[i]);
        }
        Courts.done(x, "C/FA05");
        long[] left = {54200011L, 1010012L, 34030013L, 45040013L, 50050013L};
        for (int i = 0; i < left.length; i++) {
            doc.due("without the third, debt " + i, Courts.debt(x, i), left[i]);
        }
        x.heir(3, 0);
        doc.due("an heir's stays in its place", Courts.debt(x, 2), 4010013L);
        Courts.done(x, "::");
        Courts.done(x, "BA01");
        doc.due("anew from 0 on", Courts.debt(x, 0), 10010033L);
    }

    private void firstDay() {
        doc.says("WHEN: the first day on which a KNIGHT can be in a CHAPEL (as he is now, or when he comes to where his ROAD leads;");
        BlowOwed x = Courts.shortYear();
        doc.due("where he is", x.when(0, 0), 0);
        Courts.pass(x, 7);
        doc.due("where he is, today", x.when(0, 0), 7);
        doc.due("two days", x.when(0, 1), 9);
        doc.due("by two roads", x.when(0, 2), 15);
        Courts.done(x, "A1.");
        doc.due("where his road leads", x.when(0, 1), 9);
        doc.due("from there back", x.when(0, 0), 11);
        doc.due("from there on", x.when(0, 2), 15);
        Courts.done(x, ".");
        doc.due("he is there", x.when(0, 1), 9);
        doc.due("and back", x.when(0, 0), 11);
        doc.says("going by any ROADS, waiting as he likes); NONE.");
        x = new BlowOwed();
        x.chapels(5);
        x.knight(0, 4, 1, 1, 0);
        for (int chapel = 0; chapel < 4; chapel++) {
            doc.due("no roads", x.when(0, chapel), NONE);
        }
        x.road(4, 3, 1);
        x.road(3, 2, 1);
        x.road(2, 1, 1);
        x.road(0, 1, 1);
        doc.due("by four roads", x.when(0, 0), 8);
        x.road(4, 0, 99);
        doc.due("by four yet", x.when(0, 0), 8);
        x.road(4, 0, 3);
        doc.due("by one", x.when(0, 0), 6);
        doc.due("by three, not by that one and one more", x.when(0, 1), 6);
        x.road(3, 2, 0);
        doc.due("round the other way", x.when(0, 2), 10);
    }

    /** The first day in a chapel at a road's end, for one who is at its other end on that day. */
    private static int across(int year, int day, int road) {
        BlowOwed x = new BlowOwed();
        x.yearOf(year);
        x.road(0, 1, road);
        x.knight(0, 0, 1, 1, 0);
        Courts.pass(x, day);
        return x.when(0, 1);
    }

    private void waiting() {
        doc.due("at once and later alike", across(360, 80, 10), 100);
        doc.due("at once", across(360, 79, 10), 99);
        doc.due("waits", across(360, 81, 10), 100);
        doc.due("waits a day", across(360, 89, 2), 92);
        doc.due("a day's wait is a day's road", across(360, 89, 1), 91);
        doc.due("the first summer day", across(360, 90, 99), 189);
        doc.due("the last summer day", across(360, 359, 99), 458);
        doc.due("the first winter day", across(360, 360, 99), 549);
        doc.due("the first winter day, at once", across(360, 360, 89), 538);
        doc.due("no summer, year of 90", across(90, 89, 99), 287);
        doc.due("no summer, year of 89", across(89, 88, 99), 286);
        doc.due("no summer, year of 10", across(10, 9, 99), 207);
        doc.due("one summer day", across(91, 0, 99), 189);
        doc.due("one summer day, now", across(91, 90, 99), 189);
        doc.due("one summer day, past", across(91, 91, 99), 280);
        BlowOwed x = new BlowOwed();
        x.road(0, 1, 9);
        x.road(1, 2, 20);
        x.knight(0, 0, 1, 1, 0);
        Courts.pass(x, 349);
        doc.due("two roads in summer", x.when(0, 2), 378);
        Courts.pass(x, 2);
        doc.due("the second one in winter", x.when(0, 2), 400);
    }

    private void eachByItself() {
        doc.says("IN TIME: DEBTS that he owes at which he can be on their day, each by itself, as bits.");
        BlowOwed x = Courts.shortYear();
        Courts.done(x, "AC01CA01A1..AB01A0..AC01");
        // A owes on day 11 and 15 in chapel 0, on day 13 in chapel 1; C on day 11 in chapel 0; a road takes two days.
        doc.due("A's", x.inTime(0), 13);
        doc.due("C's", x.inTime(2), 2);
        doc.due("B's", x.inTime(1), 0);
        Courts.pass(x, 7);
        doc.due("day 11, two days from chapel 1", x.inTime(0), 13);
        x.image(0);
        x.road(0, 1, 2);
        doc.due("four days", x.inTime(0), 9);
        x.road(0, 1, 0);
        doc.due("no road", x.inTime(0), 9);
        x.restore(0);
        Courts.done(x, "A1");
        doc.due("on a road", x.inTime(0), 12);
        Courts.pass(x, 1);
        doc.due("that of day 11 is past", x.inTime(0), 3);
        Courts.done(x, ".A0.");
        doc.due("that of day 13 too", x.inTime(0), 1);
        Courts.done(x, ".");
        doc.due("this very day", x.inTime(0), 1);
        Courts.done(x, ".");
        doc.due("a day later", x.inTime(0), 0);
    }

    private void judge() {
        doc.says("`int judge(int what)`: JUDGED: the ACT (what = 0), why (1); NONE. OUTSIDE; NO: there is a FAULT.");
        BlowOwed x = Courts.shortYear();
        doc.due("an empty pad", x.judge(0), NONE);
        doc.due("an empty pad, why", x.judge(1), NONE);
        Courts.write(x, ".AB01");
        doc.due("the act", x.judge(0), 1);
        doc.due("why", x.judge(1), 3);
        doc.due("2", x.judge(2), OUTSIDE);
        for (int what : FAR_NUMBERS) {
            doc.due("" + what, x.judge(what), OUTSIDE);
        }
        Courts.write(x, ".AC01");
        doc.due("none", x.judge(0), NONE);
        doc.due("none, why", x.judge(1), NONE);
        x.say('A');
        doc.due("a fault", x.judge(0), NO);
        doc.due("a fault, why", x.judge(1), NO);
        Courts.write(x, "AA01x");
        doc.due("a fault behind an act that can not be", x.judge(0), NO);
    }

    private void done() {
        doc.says("`int done()`: The COURT on the PAD is DONE (it is empty then): ACTS. NO: there is a FAULT, or an ACT that can not be.");
        BlowOwed x = Courts.shortYear();
        doc.due("an empty one", Courts.done(x, ""), 0);
        doc.due("one", Courts.done(x, "AC01"), 1);
        doc.due("it is empty", x.told(0), 0);
        doc.due("nothing again", x.done(), 0);
        doc.due("one debt", x.debt(-1, 0), 1);
        doc.due("sixty", Courts.done(x, ".".repeat(60)), 60);
        doc.due("it is empty then", x.told(0), 0);
        doc.due("a fault", Courts.done(x, "AC01A"), NO);
        doc.due("its signs stay", x.told(0), 5);
        doc.due("nothing of it is done", x.debt(-1, 0), 0);
        doc.due("the first can not be", Courts.done(x, "AA01AC01"), NO);
        doc.due("the last can not be", Courts.done(x, "AC01AA01"), NO);
        doc.due("nothing of it is done, too", x.debt(-1, 0), 0);
        doc.due("its signs stay, too", x.wipe(), 8);
    }

    private void state() {
        doc.says("`int state(int knight, int what)`: Of a KNIGHT: where he is (what = 0; NONE: on a ROAD), BEARS (1), HONOUR and 10000 (2), "
            + "DEAD (3: 1, 0). UNKNOWN; OUTSIDE.");
        BlowOwed x = Courts.shortYear();
        int[] ofB = {1, 12, 10005, 0};
        for (int what = 0; what < 4; what++) {
            doc.due("" + what, x.state(1, what), ofB[what]);
        }
        Courts.done(x, "B0.");
        doc.due("a day to go", x.state(1, 0), NONE);
        Courts.done(x, ".");
        doc.due("there", x.state(1, 0), 0);
        Courts.done(x, "AB08AB04");
        int[] dead = {0, 0, 10005, 1};
        for (int what = 0; what < 4; what++) {
            doc.due("of a dead one, " + what, x.state(1, what), dead[what]);
        }
        doc.due("not there", x.state(3, 0), UNKNOWN);
        doc.due("no such one", x.state(6, 0), UNKNOWN);
        doc.due("4", x.state(0, 4), OUTSIDE);
        for (int what : FAR_NUMBERS) {
            doc.due("" + what, x.state(0, what), OUTSIDE);
        }
    }

    private void behind() {
        doc.says("`int behind(int knight, int what)`: BEHIND, likewise. UNKNOWN; OUTSIDE; NO, as of done().");
        BlowOwed x = Courts.shortYear();
        int[] ofB = {1, 12, 10005, 0};
        for (int what = 0; what < 4; what++) {
            doc.due("an empty pad, " + what, x.behind(1, what), ofB[what]);
        }
        doc.due("not there", x.behind(3, 0), UNKNOWN);
        doc.due("no such one", x.behind(6, 0), UNKNOWN);
        doc.due("4", x.behind(0, 4), OUTSIDE);
        for (int what : FAR_NUMBERS) {
            doc.due("" + what, x.behind(0, what), OUTSIDE);
        }
        for (String text : new String[] {"A", "x", "AB01", "..A0"}) {
            Courts.write(x, text);
            doc.due("as of done, " + text, x.behind(0, 0), NO);
            doc.due("done, " + text, x.done(), NO);
        }
    }

    private void debt() {
        doc.says("`int debt(int i, int what)`: DEBTS: how many (i = -1); of the i-th: the STRIKER (what = 0), the STRUCK one (1), "
            + "how much (2), on which day (3); NONE. OUTSIDE: what.");
        BlowOwed x = Courts.strong(3);
        for (int many = 0; many <= 12; many++) {
            for (int what = 0; what < 4; what++) {
                doc.due("how many, whatever is asked", x.debt(-1, what), many);
                doc.due("one more", x.debt(many, what), NONE);
            }
            doc.due("the last one", many == 0 ? 0 : x.debt(many - 1, 2), many);
            Courts.done(x, Courts.blow(many % 2 == 0 ? 'B' : 'C', 'A', 1 + many));
        }
        int[] ofLast = {2, 0, 12, 11};
        for (int what = 0; what < 4; what++) {
            doc.due("of the twelfth, " + what, x.debt(11, what), ofLast[what]);
            doc.due("of the thirteenth, " + what, x.debt(12, what), NONE);
            doc.due("of -2, " + what, x.debt(-2, what), NONE);
        }
        for (int i : new int[] {-1, 0, 11, 12, -2}) {
            doc.due("what 4", x.debt(i, 4), OUTSIDE);
            doc.due("what -1", x.debt(i, -1), OUTSIDE);
        }
        for (int far : FAR_NUMBERS) {
            doc.due("what " + far, x.debt(0, far), OUTSIDE);
            doc.due("of " + far, x.debt(far, 0), far == -1 ? 12 : NONE);
        }
    }

    private void when() {
        doc.says("`int when(int knight, int chapel)`: WHEN; NONE. UNKNOWN: both, also DEAD.");
        BlowOwed x = Courts.shortYear();
        doc.due("here", x.when(1, 1), 0);
        doc.due("no such knight", x.when(6, 0), UNKNOWN);
        doc.due("not there", x.when(3, 0), UNKNOWN);
        doc.due("no such chapel", x.when(0, 3), UNKNOWN);
        for (int chapel : FAR_NUMBERS) {
            doc.due("chapel " + chapel, x.when(0, chapel), UNKNOWN);
        }
        x.road(1, 2, 0);
        doc.due("no road", x.when(0, 2), NONE);
        Courts.done(x, "AC08AC01");
        doc.due("dead", x.when(2, 0), UNKNOWN);
        doc.due("dead, elsewhere", x.when(2, 1), UNKNOWN);
    }

    private void inTime() {
        doc.says("`int inTime(int knight)`: IN TIME, as bits. UNKNOWN: also DEAD.");
        BlowOwed x = Courts.shortYear();
        doc.due("owes nothing", x.inTime(0), 0);
        doc.due("not there", x.inTime(3), UNKNOWN);
        doc.due("no such one", x.inTime(6), UNKNOWN);
        for (int knight : FAR_NUMBERS) {
            doc.due("" + knight, x.inTime(knight), UNKNOWN);
        }
        Courts.done(x, "CA01AC08AC01");
        doc.due("dead", x.inTime(2), UNKNOWN);
        doc.due("and owes nothing to him", x.inTime(0), 0);
        x = Courts.strong(2);
        Courts.done(x, "AB01".repeat(12));
        doc.due("twelve", x.inTime(0), 4095);
        doc.due("of the other one", x.inTime(1), 0);
    }
}
