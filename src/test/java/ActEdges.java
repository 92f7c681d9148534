/** Section 1 on what blows and acts do. */
final class ActEdges {
    private static final int NONE = BlowOwed.NONE;
    private final Sentences doc;

    ActEdges(Sentences doc) {
        this.doc = doc;
    }

    void run() {
        bearsLess();
        dead();
        debtOfABlow();
        twelveDebts();
        givesBack();
        givesBackAll();
        oldestFirst();
        flinches();
        remits();
        dayPasses();
        roadsPass();
    }

    /** A of chapel 0, B of chapel 1, both in chapel 0 on day 2; a year of ten days. */
    private static BlowOwed twoInA(int strength, int bears) {
        BlowOwed x = new BlowOwed();
        x.yearOf(10);
        x.road(0, 1, 1);
        x.road(0, 2, 1);
        x.knight(0, 0, strength, bears, 50);
        x.knight(1, 1, strength, bears, 50);
        Courts.done(x, "B0..");
        return x;
    }

    private void bearsLess() {
        doc.says("A BLOW by so much: who is struck BEARS so much less (0 at least);");
        int[] bears = {1, 5, 6, 7, 21, 99};
        int[] left = {0, 0, 0, 1, 15, 93};
        for (int i = 0; i < bears.length; i++) {
            BlowOwed x = twoInA(6, bears[i]);
            Courts.done(x, "AB06");
            doc.due("6 of " + bears[i], x.state(1, 1), left[i]);
            doc.due("the striker", x.state(0, 1), bears[i]);
            doc.due("honour of neither", x.state(0, 2) + x.state(1, 2), 20100);
        }
    }

    private void dead() {
        doc.says("if that is 0 then, he is DEAD, and all DEBTS of his and to him are no more.");
        BlowOwed x = Courts.strong(4);
        Courts.done(x, "BA05AB20CB03AB20BC01CA02AB20AB20");
        doc.due("80 of 99 and 3", x.state(1, 1), 16);
        doc.due("not dead", x.state(1, 3), 0);
        doc.due("eight debts", x.debt(-1, 0), 8);
        x.image(0);
        Courts.done(x, "DB15");
        doc.due("1 is left", x.state(1, 3), 0);
        doc.due("nine debts", x.debt(-1, 0), 9);
        x.restore(0);
        Courts.done(x, "DB16");
        doc.due("0 is left", x.state(1, 3), 1);
        doc.due("what is neither his nor to him", x.debt(-1, 0), 1);
        doc.due("C's to A", Courts.debt(x, 0), 20020011L);
        doc.due("he is there", x.state(1, 0), 0);
        doc.due("in the set of those who are", x.told(2), 15);
    }

    private void debtOfABlow() {
        doc.says("If it is not one that is given back (=), and he is not DEAD, a DEBT comes of it: the STRIKER owes it to the STRUCK one "
            + "to be struck by as much, on the day that is a YEAR and a day later, in the STRUCK one's own CHAPEL.");
        BlowOwed x = twoInA(20, 20);
        Courts.done(x, "AB19");
        doc.due("striker, struck, how much, day 2 and 11", Courts.debt(x, 0), 1190013L);
        Courts.done(x, "B1:.");
        doc.due("in B's chapel, not in that of the blow", Courts.why(x, "B="), NONE);
        doc.due("A could be there", Courts.why(x, "A!"), 6);
        x = twoInA(20, 20);
        Courts.done(x, "AB19B1.......A1..");
        doc.due("A is in B's chapel, two days before", x.told(3), 11);
        Courts.done(x, "..B=");
        doc.due("of what is given back no debt", x.debt(-1, 0), 0);
        doc.due("struck by as much", x.state(0, 1), 1);
        x = twoInA(20, 20);
        Courts.done(x, "AB20");
        doc.due("dead by it: no debt", x.debt(-1, 0), 0);
        x = new BlowOwed();
        x.yearOf(400);
        x.knight(0, 0, 20, 99, 0);
        x.knight(1, 0, 20, 99, 0);
        Courts.pass(x, 399);
        Courts.done(x, "BA20");
        doc.due("a year of 400", Courts.debt(x, 0), 10200800L);
    }

    private void twelveDebts() {
        doc.says("(Twelve DEBTS at most.)");
        BlowOwed x = Courts.strong(3);
        doc.due("eleven", Courts.done(x, "AB01".repeat(11)), 11);
        doc.due("the twelfth can be", Courts.why(x, "AB01"), NONE);
        doc.due("the thirteenth can not", Courts.why(x, "AB01CB01"), 107);
        Courts.done(x, "AB01");
        doc.due("twelve", x.debt(-1, 0), 12);
        doc.due("nobody strikes", Courts.why(x, "CA01"), 7);
        Courts.pass(x, 11);
        doc.due("on their day neither", Courts.why(x, "CA01"), 7);
        doc.due("behind it he does", Courts.why(x, ".CA01"), NONE);
        doc.due("when they are given back", Courts.why(x, "B=CA01"), NONE);
        doc.due("when they are remitted", Courts.why(x, "B/CA01"), NONE);
    }

    private void givesBack() {
        doc.says("= For each DEBT of this day that is owed to him,");
        BlowOwed x = Courts.strong(3);
        Courts.done(x, "AB01.AB02.AB04:");
        x.image(0);
        doc.due("day 12", x.told(3), 12);
        Courts.done(x, "B=");
        doc.due("2 of that day alone; that of day 11 is past", x.state(0, 1), 97);
        doc.due("that of day 13 stays", Courts.debt(x, 0), 1040013L);
        doc.due("only that", x.debt(-1, 0), 1);
        doc.says("if its STRIKER is in his CHAPEL, he is struck (by as much, the STRENGTH of who gives it at most),");
        int[] strengths = {1, 4, 5, 6, 20};
        for (int strength : strengths) {
            x = new BlowOwed();
            x.yearOf(10);
            x.knight(0, 0, 20, 99, 50);
            x.knight(1, 0, strength, 99, 50);
            Courts.done(x, "AB05:.B=");
            doc.due("5 by strength " + strength, x.state(0, 1), 99 - Math.min(5, strength));
        }
        doc.says("his HONOUR is 1 more, that of who gives it 3 more;");
        doc.due("his", x.state(0, 2), 10051);
        doc.due("that of who gives it", x.state(1, 2), 10053);
        notThere();
    }

    private void notThere() {
        doc.says("if he is not there, his HONOUR is 5 less.");
        BlowOwed x = twoInA(20, 20);
        Courts.done(x, "AB05B1:.");
        Courts.done(x, "B=");
        doc.due("A is in another one", x.state(0, 2), 10045);
        doc.due("and is not struck", x.state(0, 1), 20);
        doc.due("B has nothing of it", x.state(1, 2), 10050);
        x = twoInA(20, 20);
        Courts.done(x, "AB05B1:A1.");
        doc.due("the day", x.told(3), 13);
        Courts.done(x, "B=");
        doc.due("A is on the road there", x.state(0, 2), 10045);
        doc.due("and not struck", x.state(0, 1), 20);
        doc.says("The DEBT is no more.");
        doc.due("debts", x.debt(-1, 0), 0);
        doc.due("no more this day", Courts.why(x, "B="), 6);
        Courts.pass(x, 1);
        doc.due("nothing is lost by the day", x.state(1, 2), 10050);
    }

    private void givesBackAll() {
        BlowOwed x = Courts.strong(3);
        Courts.done(x, "AB01CB02".repeat(6) + ":.");
        Courts.done(x, "B=");
        doc.due("twelve at once", x.debt(-1, 0), 0);
        doc.due("six of A", x.state(0, 1), 93);
        doc.due("six of C", x.state(2, 1), 87);
        doc.due("honour of twelve", x.state(1, 2), 10086);
        doc.due("honour of six", x.state(0, 2), 10056);
    }

    private void oldestFirst() {
        doc.says("the oldest first:");
        for (int first = 1; first <= 2; first++) {
            BlowOwed x = Courts.strong(2);
            x.knight(2, 0, 20, 2, 50);
            Courts.done(x, first == 2 ? "CA02CA01:.A=" : "CA01CA02:.A=");
            doc.due("dead by the first, or by both", x.state(2, 3), 1);
            doc.due("honour of who gives, " + first, x.state(0, 2), first == 2 ? 10053 : 10056);
            doc.due("honour of the dead one, " + first, x.state(2, 2), first == 2 ? 10051 : 10052);
            doc.due("none is left", x.debt(-1, 0), 0);
        }
    }

    private void flinches() {
        doc.says("! Each DEBT of this day that he owes to one in whose own CHAPEL he is now is half (cut); his HONOUR is 2 less.");
        int[] much = {1, 2, 3, 19, 20};
        int[] half = {0, 1, 1, 9, 10};
        for (int i = 0; i < much.length; i++) {
            BlowOwed x = Courts.strong(2);
            Courts.done(x, Courts.blow('A', 'B', much[i]) + ":.A!");
            doc.due("half of " + much[i], x.debt(0, 2), half[i]);
            doc.due("it is there yet", x.debt(-1, 0), 1);
            doc.due("honour", x.state(0, 2), 10048);
            Courts.done(x, "B=");
            doc.due("struck by that", x.state(0, 1), 99 - half[i]);
            doc.due("honour of who gives it", x.state(1, 2), 10053);
        }
        flinchesOfSome();
    }

    private void flinchesOfSome() {
        BlowOwed x = twoInA(20, 99);
        x.knight(2, 0, 20, 99, 50);
        x.knight(3, 0, 20, 99, 50);
        // On day 13 A owes to B of chapel 1, to C and D of chapel 0, D to A; on day 14 A to C.
        Courts.done(x, "AB08AC08AD06DA08.AC08:");
        Courts.done(x, "A!");
        int[] due = {8, 4, 3, 8, 8};
        for (int i = 0; i < due.length; i++) {
            doc.due("debt " + i, x.debt(i, 2), due[i]);
        }
        doc.due("2 less once", x.state(0, 2), 10048);
        Courts.done(x, "A!A!A!");
        doc.due("4 by half, half, half", x.debt(1, 2), 0);
        doc.due("each time 2 less", x.state(0, 2), 10042);
        doc.due("of 0 also", Courts.why(x, "A!"), NONE);
    }

    private void remits() {
        doc.says("/ All DEBTS that are owed to him are no more, his HONOUR is 1 more for each.");
        BlowOwed x = Courts.strong(3);
        Courts.done(x, "AB01.CB02.BA03.CA01.AB04");
        Courts.done(x, "B/");
        doc.due("of all days", x.debt(-1, 0), 2);
        doc.due("three more", x.state(1, 2), 10053);
        doc.due("what he owes stays", Courts.debt(x, 0), 10030013L);
        doc.due("what others owe to others stays", Courts.debt(x, 1), 20010014L);
        doc.due("honour of who owed", x.state(0, 2), 10050);
        Courts.done(x, "A/" + "AB01".repeat(12) + "B/");
        doc.due("twelve", x.debt(-1, 0), 0);
        doc.due("twelve more", x.state(1, 2), 10065);
    }

    private void dayPasses() {
        doc.says("When a day passes, each DEBT of that day (the one that ends) is no more, the HONOUR of whom it was owed to is 4 less;");
        BlowOwed x = Courts.strong(3);
        Courts.done(x, "AB01AB01CA01.BC01:");
        x.image(0);
        doc.due("on its day it is there", x.debt(-1, 0), 4);
        doc.due("the day", x.told(3), 11);
        Courts.pass(x, 1);
        doc.due("three are no more", x.debt(-1, 0), 1);
        doc.due("B by two", x.state(1, 2), 10042);
        doc.due("A by one", x.state(0, 2), 10046);
        doc.due("C by none", x.state(2, 2), 10050);
        Courts.pass(x, 1);
        doc.due("the next one", x.debt(-1, 0), 0);
        doc.due("C by one", x.state(2, 2), 10046);
        x.restore(0);
        Courts.done(x, ":");
        doc.due("ten days at once", x.debt(-1, 0), 0);
        doc.due("C by one then", x.state(2, 2), 10046);
        x = Courts.strong(3);
        Courts.done(x, "AB01:");
        doc.due("up to the day itself, ten", x.debt(-1, 0), 1);
        x = Courts.strong(3);
        Courts.done(x, "AB01;");
        doc.due("a hundred", x.state(1, 2), 10046);
        doc.due("once", x.debt(-1, 0), 0);
    }

    private void roadsPass() {
        doc.says("who is on a ROAD has a day less to go (0: he is there).");
        int[] roads = {1, 5, 6, 50, 51, 99};
        for (int road : roads) {
            BlowOwed x = twoInA(1, 1);
            x.road(0, 1, road);
            Courts.done(x, "A1");
            Courts.pass(x, 2 * road - 1);
            doc.due("one to go", x.state(0, 0), NONE);
            doc.due("and no act of his", Courts.why(x, "A0"), 2);
            doc.due("nor a blow on him", Courts.why(x, "BA01"), 2);
            doc.due("a day more", Courts.why(x, ".A0"), NONE);
            doc.due("many days more", Courts.why(x, ";;A0"), NONE);
            Courts.pass(x, 1);
            doc.due("there", x.state(0, 0), 1);
            Courts.pass(x, 1);
            doc.due("and stays", x.state(0, 0), 1);
        }
    }
}
