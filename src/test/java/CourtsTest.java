/** Promises 10 to 16: courts are judged and done; debts; who can be where. */
public final class CourtsTest {
    private static final int NONE = BlowOwed.NONE, UNKNOWN = BlowOwed.UNKNOWN, OUTSIDE = BlowOwed.OUTSIDE;
    private static final int NO = BlowOwed.NO;
    private static final Check CHECK = new Check();

    public static void main(String[] args) {
        refusals();
        reasonsOfBlows();
        reasonsOfOthers();
        twelveDebts();
        blows();
        givingBack();
        givingBackToSeveral();
        flinching();
        remitting();
        days();
        when();
        inTime();
        CHECK.end();
    }

    private static void due(String call, long got, long want) {
        CHECK.due(call, got, want);
    }

    private static void refusals() {
        BlowOwed x = Courts.shortYear();
        Courts.write(x, "A");
        due("10 outside before no", x.judge(2), OUTSIDE);
        due("10 -1", x.judge(-1), OUTSIDE);
        due("10 a fault", x.judge(0), NO);
        due("11 a fault", x.done(), NO);
        due("11 the pad stays", x.told(0), 1);
        due("13 a fault", x.behind(0, 0), NO);
        due("13 unknown first", x.behind(3, 4), UNKNOWN);
        due("13 then outside", x.behind(0, 4), OUTSIDE);
        due("13 below", x.behind(0, -1), OUTSIDE);
        Courts.write(x, "AC01D=");
        due("11 an act that can not be", x.done(), NO);
        due("11 nothing is done", x.debt(-1, 0), 0);
        due("13 an act that can not be", x.behind(0, 0), NO);
        due("12 unknown first", x.state(3, 4), UNKNOWN);
        due("12 no such knight", x.state(6, 0), UNKNOWN);
        due("12 4", x.state(0, 4), OUTSIDE);
        due("12 -1", x.state(0, -1), OUTSIDE);
        due("14 4", x.debt(0, 4), OUTSIDE);
        due("14 -1", x.debt(-1, -1), OUTSIDE);
        due("14 what first", x.debt(-1, 4), OUTSIDE);
        due("14 -2", x.debt(-2, 0), NONE);
        due("14 0", x.debt(0, 0), NONE);
        due("14 far", x.debt(Integer.MAX_VALUE, 3), NONE);
        due("14 below", x.debt(Integer.MIN_VALUE, 3), NONE);
    }

    private static void reasonsOfBlows() {
        BlowOwed x = Courts.shortYear();
        due("10 not there", Courts.why(x, "AD01"), 1);
        due("10 not there, first", Courts.why(x, "DA01"), 1);
        due("10 both are one", Courts.why(x, "AA01"), 1);
        due("10 one and too hard", Courts.why(x, "AA20"), 1);
        due("10 the second on a road", Courts.why(x, "A1CA01"), 102);
        due("10 the first on a road", Courts.why(x, "A1AC01"), 102);
        due("10 on a road and apart", Courts.why(x, "A1AB20"), 102);
        due("10 there again", Courts.why(x, "A1..AB01"), NONE);
        due("10 a day too soon", Courts.why(x, "A1.AB01"), 202);
        due("10 apart", Courts.why(x, "AB01"), 3);
        due("10 apart and too hard", Courts.why(x, "AB20"), 3);
        due("10 too hard", Courts.why(x, "AC09"), 4);
        due("10 just not", Courts.why(x, "AC08"), NONE);
        due("10 dead then", Courts.why(x, ".AC08AC01AC01"), 301);
        due("10 a dead one strikes", Courts.why(x, "AC08AC01CA01"), 201);
        due("10 : and ; are one each", Courts.why(x, ":;.AB01"), 303);
    }

    private static void reasonsOfOthers() {
        BlowOwed x = Courts.shortYear();
        due("10 sets out, not there", Courts.why(x, "D1"), 1);
        due("10 gives back, not there", Courts.why(x, "D="), 1);
        due("10 flinches, not there", Courts.why(x, "D!"), 1);
        due("10 remits, not there", Courts.why(x, "D/"), 1);
        due("10 sets out on a road", Courts.why(x, "A1A0"), 102);
        due("10 gives back on a road", Courts.why(x, "A1A="), 102);
        due("10 flinches on a road", Courts.why(x, "A1A!"), 102);
        due("10 remits on a road", Courts.why(x, "CA01A1A/"), 202);
        due("10 no road", Courts.why(x, "A2"), 5);
        due("10 to where he is", Courts.why(x, "A0"), 5);
        due("10 nobody owes", Courts.why(x, "A="), 6);
        due("10 owes nobody", Courts.why(x, "A!"), 6);
        due("10 nothing to remit", Courts.why(x, "A/"), 6);
        due("10 not this day", Courts.why(x, "AC01:C="), 206);
        due("10 this day", Courts.why(x, "AC01:.C="), NONE);
        due("10 the day is over", Courts.why(x, "AC01:..C="), 406);
        due("10 not in his own chapel", Courts.why(x, "AC01C1:.C="), 406);
        due("10 not his day to flinch", Courts.why(x, "AC01:A!"), 206);
        due("10 his day to flinch", Courts.why(x, "AC01:.A!"), NONE);
        due("10 not in the other's chapel", Courts.why(x, "AC01A1:.A!"), 406);
        due("10 who is owed can not flinch", Courts.why(x, "AC01:.C!"), 306);
        due("10 who owes can not give back", Courts.why(x, "AC01:.A="), 306);
        due("10 who owes can not remit", Courts.why(x, "AC01A/"), 106);
        due("10 dead ones do nothing", Courts.why(x, "AC08AC08C1"), 201);
        due("10 nothing was done by judging", x.debt(-1, 0), 0);
    }

    private static void twelveDebts() {
        BlowOwed x = Courts.shortYear();
        due("11 twelve", Courts.done(x, "CA01".repeat(11) + "AC01"), 12);
        due("14 twelve", x.debt(-1, 0), 12);
        due("14 the last one", Courts.debt(x, 11), 2010011L);
        due("10 one more", Courts.why(x, "CA01"), 7);
        due("10 too hard before too many", Courts.why(x, "CA04"), 4);
        due("10 one that would kill", Courts.why(x, "AC08"), 7);
        due("10 others can be", Courts.why(x, "A1"), NONE);
        due("10 with room again", Courts.why(x, "C/CA01"), NONE);
        due("10 and no more room", Courts.why(x, "C/CA01CA01"), 207);
    }

    private static void blows() {
        BlowOwed x = Courts.shortYear();
        Courts.write(x, "AC05");
        due("13 bears", x.behind(2, 1), 4);
        due("13 not in fact", x.state(2, 1), 9);
        due("11 one act", x.done(), 1);
        due("11 the pad is empty", x.told(0), 0);
        due("12 bears", x.state(2, 1), 4);
        due("12 the striker's bears", x.state(0, 1), 20);
        due("14 a year and a day", Courts.debt(x, 0), 2050011L);
        Courts.done(x, "CA02CA03");
        due("14 in their order", Courts.debt(x, 2), 20030011L);
        // Four kill C: his debts and those to him are no more, and no debt comes of it.
        Courts.done(x, "AC04");
        due("14 none", x.debt(-1, 0), 0);
        due("12 bears 0", x.state(2, 1), 0);
        due("12 dead", x.state(2, 3), 1);
        due("12 where he lies", x.state(2, 0), 0);
        due("15 dead", x.when(2, 0), UNKNOWN);
        due("16 dead", x.inTime(2), UNKNOWN);
        due("5 he is there yet", x.knight(2, 0, 1, 1, 1), BlowOwed.STATE);
        x = Courts.shortYear();
        Courts.done(x, "A1..AB02A0..AC08AC08");
        due("14 other debts stay", x.debt(-1, 0), 1);
        due("14 A's to B", Courts.debt(x, 0), 1020013L);
    }

    private static void givingBack() {
        BlowOwed x = Courts.shortYear();
        Courts.done(x, "AC05:.");
        x.image(0);
        due("11 C gives back", Courts.done(x, "C="), 1);
        due("12 by C's strength at most", x.state(0, 1), 17);
        due("12 A's honour", x.state(0, 2), 10011);
        due("12 C's honour", x.state(2, 2), 10003);
        due("14 no debt of it", x.debt(-1, 0), 0);
        x.restore(0);
        Courts.done(x, "A1C=");
        due("12 A is not there", x.state(0, 2), 10005);
        due("12 A is not struck", x.state(0, 1), 20);
        due("12 C has nothing of it", x.state(2, 2), 10000);
        due("14 no more", x.debt(-1, 0), 0);
        x.restore(0);
        Courts.done(x, ".");
        due("12 the day has passed", x.state(2, 2), 9996);
        due("12 A's honour as before", x.state(0, 2), 10010);
    }

    private static void givingBackToSeveral() {
        BlowOwed x = new BlowOwed();
        x.chapels(2);
        x.yearOf(10);
        x.road(0, 1, 1);
        x.knight(0, 0, 9, 99, 0);
        x.knight(1, 1, 9, 5, 0);
        x.knight(2, 1, 9, 30, 0);
        x.knight(3, 1, 9, 30, 0);
        Courts.done(x, "B0C0D0..");
        // A is owed by B 3, C 2, B 4, D 1; C is owed 2 by B: the first two blows to B would be 7, he bears 5.
        Courts.done(x, "BA03CA02BA04DA01BC02");
        Courts.done(x, "D1:.");
        due("14 five", x.debt(-1, 0), 5);
        due("11 A gives all back", Courts.done(x, "A="), 1);
        due("12 B is dead", x.state(1, 3), 1);
        due("12 B bears 0", x.state(1, 1), 0);
        due("12 B's honour", x.state(1, 2), 10002);
        due("12 C bears", x.state(2, 1), 26);
        due("12 C's honour", x.state(2, 2), 10001);
        due("12 D bears", x.state(3, 1), 30);
        due("12 D's honour", x.state(3, 2), 9995);
        due("12 A's honour", x.state(0, 2), 10009);
        due("14 what B owed to C is no more", x.debt(-1, 0), 0);
        killedByTheFirst();
    }

    private static void killedByTheFirst() {
        BlowOwed x = new BlowOwed();
        x.yearOf(10);
        x.knight(0, 0, 9, 99, 0);
        x.knight(1, 0, 9, 3, 0);
        Courts.done(x, "BA03BA04:.A=");
        due("12 dead by the first", x.state(1, 3), 1);
        due("12 the second one is not given", x.state(0, 2), 10003);
        due("12 honour of one", x.state(1, 2), 10001);
        due("14 none", x.debt(-1, 0), 0);
    }

    private static void flinching() {
        BlowOwed x = Courts.shortYear();
        Courts.done(x, "AC05AC01:.");
        due("11 flinches", Courts.done(x, "A!"), 1);
        due("14 half of 5, cut", x.debt(0, 2), 2);
        due("14 half of 1, cut", x.debt(1, 2), 0);
        due("14 both are there yet", x.debt(-1, 0), 2);
        due("12 once 2 less", x.state(0, 2), 10008);
        Courts.done(x, "A!");
        due("14 half again", x.debt(0, 2), 1);
        due("12 2 less again", x.state(0, 2), 10006);
        Courts.done(x, "C=");
        due("12 struck by 1 and 0", x.state(0, 1), 19);
        due("12 honour for each", x.state(0, 2), 10008);
        due("12 and for C", x.state(2, 2), 10006);
        x = Courts.shortYear();
        // Only what is owed to one whose chapel he is in: A owes both B and C on day 13, and is with C.
        x.knight(3, 1, 20, 50, 0);
        Courts.done(x, "D0..AD04AC06:.");
        Courts.done(x, "A!");
        due("14 D's chapel is elsewhere", x.debt(0, 2), 4);
        due("14 C's is here", x.debt(1, 2), 3);
    }

    private static void remitting() {
        BlowOwed x = Courts.shortYear();
        Courts.done(x, "AC01AC02CA01");
        due("11 remits", Courts.done(x, "C/"), 1);
        due("12 1 for each", x.state(2, 2), 10002);
        due("14 what C owes stays", x.debt(-1, 0), 1);
        due("14 it is that one", Courts.debt(x, 0), 20010011L);
        due("10 nothing any more", Courts.why(x, "C/"), 6);
    }

    private static void days() {
        BlowOwed x = Courts.shortYear();
        Courts.done(x, "AC01.AC01");
        due("14 the later one", x.debt(1, 3), 12);
        Courts.done(x, ":");
        due("14 both, on day 11", x.debt(-1, 0), 2);
        Courts.done(x, ".");
        due("14 one is no more", x.debt(-1, 0), 1);
        due("12 4 less", x.state(2, 2), 9996);
        Courts.done(x, ":");
        due("14 the other one", x.debt(-1, 0), 0);
        due("12 8 less", x.state(2, 2), 9992);
        due("3 the day", x.told(3), 22);
        Courts.done(x, ";");
        due("3 a hundred more", x.told(3), 122);
        due("12 on a road", Courts.done(x, "A1."), 2);
        due("12 NONE", x.state(0, 0), NONE);
        Courts.done(x, ".");
        due("12 there", x.state(0, 0), 1);
        Courts.done(x, "A2:");
        due("12 six days, more passed", x.state(0, 0), 2);
    }

    private static void when() {
        BlowOwed x = new BlowOwed();
        x.road(0, 1, 99);
        x.road(1, 2, 10);
        x.road(0, 2, 50);
        x.knight(0, 0, 1, 1, 0);
        due("15 no chapel", x.when(0, 4), UNKNOWN);
        due("15 no chapel", x.when(0, -1), UNKNOWN);
        due("15 no knight", x.when(1, 0), UNKNOWN);
        due("15 no knight 6", x.when(6, 0), UNKNOWN);
        due("15 here", x.when(0, 0), 0);
        due("15 at once", x.when(0, 2), 100);
        due("15 round about", x.when(0, 1), 110);
        due("15 no road", x.when(0, 3), NONE);
        Courts.done(x, ":::::" + ":::..");
        due("15 waits for the winter's end", x.when(0, 2), 140);
        due("15 and goes on", x.when(0, 1), 150);
        Courts.done(x, "........");
        due("15 the winter is over", x.when(0, 2), 140);
        Courts.done(x, "A2:");
        due("15 from where his road leads", x.when(0, 1), 150);
        due("15 and back", x.when(0, 0), 190);
        x.yearOf(90);
        due("15 always winter", x.when(0, 1), 160);
        x.yearOf(91);
        // He comes on day 140, which is day 49 of year 1; the one summer day is day 181.
        due("15 at once by ten", x.when(0, 1), 160);
        due("15 on the summer day by fifty", x.when(0, 0), 231);
    }

    private static void inTime() {
        BlowOwed x = Courts.shortYear();
        due("16 no knight", x.inTime(3), UNKNOWN);
        due("16 no knight -1", x.inTime(-1), UNKNOWN);
        due("16 owes nothing", x.inTime(0), 0);
        Courts.done(x, "CA01AC01AC01");
        due("16 bits by number", x.inTime(0), 6);
        due("16 C's", x.inTime(2), 1);
        Courts.done(x, "A1..");
        due("16 can come back", x.inTime(0), 6);
        Courts.done(x, ".......");
        due("16 day 9, two days away", x.inTime(0), 6);
        Courts.done(x, ".");
        due("16 day 10", x.inTime(0), 0);
        Courts.done(x, "A2");
        due("16 on a road away", x.inTime(0), 0);
    }
}
