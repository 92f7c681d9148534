/** Section 1 on knights; promises 5 and 6. */
final class KnightEdges {
    private static final int NONE = BlowOwed.NONE, UNKNOWN = BlowOwed.UNKNOWN, OUTSIDE = BlowOwed.OUTSIDE;
    private static final int STATE = BlowOwed.STATE;
    private static final int[] FAR_NUMBERS = {-1, -100, Integer.MIN_VALUE, 1000, Integer.MAX_VALUE};
    private final Sentences doc;

    KnightEdges(Sentences doc) {
        this.doc = doc;
    }

    void run() {
        numbers();
        strength();
        bears();
        honour();
        ownChapel();
        knight();
        heir();
        halves();
        heirsOfBothSides();
        heirsOnRoads();
    }

    private void numbers() {
        doc.says("KNIGHTS 0 to 5 (A to F), some of whom are there (none at first):");
        BlowOwed x = new BlowOwed();
        for (int knight = 0; knight < 6; knight++) {
            doc.due("nobody at first", x.state(knight, 0), UNKNOWN);
            doc.due("by his letter", Courts.why(x, (char) ('A' + knight) + "/"), 1);
            x.knight(knight, 0, 1, 1, 0);
            doc.due("he is there", x.state(knight, 0), 0);
            doc.due("by his letter, there", Courts.why(x, (char) ('A' + knight) + "/"), 6);
        }
        doc.due("knight 6", x.knight(6, 0, 1, 1, 0), UNKNOWN);
        doc.due("state 6", x.state(6, 0), UNKNOWN);
        for (int knight : FAR_NUMBERS) {
            doc.due("knight " + knight, x.knight(knight, 0, 1, 1, 0), UNKNOWN);
            doc.due("state " + knight, x.state(knight, 0), UNKNOWN);
            doc.due("behind " + knight, x.behind(knight, 0), UNKNOWN);
            doc.due("when " + knight, x.when(knight, 0), UNKNOWN);
            doc.due("heir " + knight, x.heir(0, knight), UNKNOWN);
        }
        Courts.write(x, "G/");
        doc.due("G", x.fault(), 0);
    }

    private void strength() {
        doc.says("STRENGTH (1 to 20),");
        BlowOwed x = new BlowOwed();
        doc.due("0", x.knight(0, 0, 0, 50, 0), OUTSIDE);
        doc.due("21", x.knight(0, 0, 21, 50, 0), OUTSIDE);
        for (int strength : FAR_NUMBERS) {
            doc.due("" + strength, x.knight(0, 0, strength, 50, 0), OUTSIDE);
        }
        doc.due("1", x.knight(0, 0, 1, 50, 0), 1);
        doc.due("20", x.knight(1, 0, 20, 50, 0), 2);
        doc.due("told of 1", x.told(10), 1);
        doc.due("told of 20", x.told(20), 20);
        doc.due("strikes by 1", Courts.why(x, "AB01"), NONE);
        doc.due("not by 2", Courts.why(x, "AB02"), 4);
        doc.due("strikes by 20", Courts.why(x, "BA20"), NONE);
    }

    private void bears() {
        doc.says("BEARS (1 to 99: so much he can bear yet),");
        BlowOwed x = new BlowOwed();
        doc.due("0", x.knight(0, 0, 20, 0, 0), OUTSIDE);
        doc.due("100", x.knight(0, 0, 20, 100, 0), OUTSIDE);
        for (int bears : FAR_NUMBERS) {
            doc.due("" + bears, x.knight(0, 0, 20, bears, 0), OUTSIDE);
        }
        doc.due("1", x.knight(0, 0, 20, 1, 0), 1);
        doc.due("99", x.knight(1, 0, 20, 99, 0), 2);
        doc.due("state 1", x.state(0, 1), 1);
        doc.due("state 99", x.state(1, 1), 99);
        Courts.done(x, "AB20AB20AB20AB20AB18");
        doc.due("98 of 99", x.state(1, 1), 1);
        doc.due("not dead", x.state(1, 3), 0);
        Courts.done(x, "AB01");
        doc.due("99 of 99", x.state(1, 1), 0);
        doc.due("dead", x.state(1, 3), 1);
    }

    private void honour() {
        doc.says("HONOUR (0 to 99; it can go below 0),");
        BlowOwed x = new BlowOwed();
        x.yearOf(10);
        doc.due("-1", x.knight(0, 0, 20, 50, -1), OUTSIDE);
        doc.due("100", x.knight(0, 0, 20, 50, 100), OUTSIDE);
        for (int honour : FAR_NUMBERS) {
            doc.due("" + honour, x.knight(0, 0, 20, 50, honour), OUTSIDE);
        }
        doc.due("0", x.knight(0, 0, 20, 99, 0), 1);
        doc.due("99", x.knight(1, 0, 20, 99, 99), 2);
        doc.due("state 0", x.state(0, 2), 10000);
        doc.due("state 99", x.state(1, 2), 10099);
        Courts.done(x, "BA01AB01AB01:.B=.");
        doc.due("99 and 6", x.state(1, 2), 10105);
        doc.due("0 and 2 less 4", x.state(0, 2), 9998);
        Courts.done(x, "BA01".repeat(12) + ":..");
        doc.due("twelve times 4 less", x.state(0, 2), 9950);
    }

    private void ownChapel() {
        doc.says("his own CHAPEL (where he is when he comes).");
        BlowOwed x = new BlowOwed();
        x.chapels(5);
        for (int chapel = 0; chapel < 5; chapel++) {
            x.knight(chapel, chapel, 1, 1, 0);
            doc.due("where he is", x.state(chapel, 0), chapel);
            doc.due("his own", x.told(10 * (1 + chapel) + 1), chapel);
        }
        x.road(0, 4, 1);
        Courts.done(x, "A4..");
        doc.due("elsewhere", x.state(0, 0), 4);
        doc.due("his own yet", x.told(11), 0);
        x.heir(0, 1);
        x.knight(0, 3, 1, 1, 0);
        doc.due("where he is when he comes again", x.state(0, 0), 3);
        doc.due("his own then", x.told(11), 3);
        doc.says("It is day 0 at first.");
        doc.due("told(3)", new BlowOwed().told(3), 0);
    }

    private void knight() {
        doc.says("`int knight(int knight, int chapel, int strength, int bears, int honour)`: A KNIGHT is there: how many are. "
            + "UNKNOWN: both; OUTSIDE; STATE: he is there.");
        BlowOwed x = new BlowOwed();
        int[] order = {5, 0, 3, 1, 4, 2};
        for (int i = 0; i < order.length; i++) {
            doc.due("knight(" + order[i] + ")", x.knight(order[i], 0, 20, 1, 0), i + 1);
            doc.due("once more", x.knight(order[i], 0, 20, 1, 0), STATE);
        }
        doc.due("a seventh one", x.knight(6, 0, 20, 1, 0), UNKNOWN);
        doc.due("no chapel", x.knight(0, 4, 20, 1, 0), UNKNOWN);
        Courts.done(x, "AB01");
        doc.due("a dead one is there", x.knight(1, 0, 20, 1, 0), STATE);
        doc.due("one less", x.heir(1, 0), 5);
        doc.due("who is no more can come", x.knight(1, 0, 20, 1, 0), 6);
        doc.due("and is not dead", x.state(1, 3), 0);
        doc.due("bears", x.state(1, 1), 1);
    }

    private void heir() {
        doc.says("`int heir(int knight, int heir)`: A KNIGHT is no more; another one is his heir:");
        BlowOwed x = Courts.strong(6);
        for (int knight = 5; knight > 0; knight--) {
            doc.due("so many are", x.heir(knight, 0), knight);
            doc.due("he is no more", x.state(knight, 0), UNKNOWN);
            doc.due("by his letter", Courts.why(x, (char) ('A' + knight) + "/"), 1);
        }
        doc.due("bits", x.told(2), 1);
        doc.due("the heir is as he was", x.state(0, 2), 10050);
        doc.due("who was heir bears as much", x.state(0, 1), 99);
        doc.says("how many are there. UNKNOWN: both, also one, or the heir is DEAD.");
        doc.due("the last one has none", x.heir(0, 1), UNKNOWN);
        doc.due("nor himself", x.heir(0, 0), UNKNOWN);
        x.knight(1, 0, 1, 20, 0);
        x.knight(2, 0, 1, 20, 0);
        Courts.done(x, "AB20");
        doc.due("a dead heir", x.heir(0, 1), UNKNOWN);
        doc.due("a dead one's heir is himself", x.heir(1, 1), UNKNOWN);
        doc.due("no knight", x.heir(3, 0), UNKNOWN);
        doc.due("no heir", x.heir(0, 3), UNKNOWN);
        doc.due("no heir of a dead one", x.heir(1, 3), UNKNOWN);
        doc.due("knight 6", x.heir(6, 0), UNKNOWN);
        doc.due("heir -1", x.heir(0, -1), UNKNOWN);
        doc.due("three yet", x.told(2), 7);
        doc.due("of a dead one", x.heir(1, 2), 2);
    }

    /** Each debt by itself: 1, 2, 3, 19, 20, owed by C to A, who goes, and by A to C. */
    private void halves() {
        doc.says("half (cut) of each DEBT that he owes, that is owed to him, is the heir's");
        int[] much = {2, 3, 19, 20};
        int[] half = {1, 1, 9, 10};
        for (int i = 0; i < much.length; i++) {
            BlowOwed x = Courts.strong(4);
            Courts.done(x, "." + Courts.blow('C', 'A', much[i]) + Courts.blow('A', 'C', much[i]) + Courts.blow('C', 'D', 7));
            x.heir(0, 1);
            doc.due("all three", x.debt(-1, 0), 3);
            doc.due("owed to the heir", Courts.debt(x, 0), 21000012L + 10000L * half[i]);
            doc.due("owed by the heir", Courts.debt(x, 1), 12000012L + 10000L * half[i]);
            doc.due("another's", Courts.debt(x, 2), 23070012L);
            x.heir(1, 3);
            doc.due("half again", x.debt(-1, 0), half[i] == 1 ? 1 : 3);
        }
        heirsChapels();
        doc.says("(if that is 0, or both are the heir then, it is no more):");
        BlowOwed x = Courts.strong(3);
        Courts.done(x, "CA01AC01CB01AC02");
        x.heir(0, 1);
        doc.due("half of 1", x.debt(-1, 0), 2);
        doc.due("another's 1", Courts.debt(x, 0), 21010011L);
        doc.due("half of 2", Courts.debt(x, 1), 12010011L);
        x = Courts.strong(3);
        Courts.done(x, "AC01CA02:.A!");
        doc.due("1 by flinching 0", x.debt(0, 2), 0);
        x.heir(0, 1);
        doc.due("half of 0", x.debt(-1, 0), 1);
    }

    /** What is owed to the heir is met in his own chapel, which stays his: B's is near, D's is too far. */
    private void heirsChapels() {
        BlowOwed x = owedToC();
        doc.due("C's chapel, where A is", x.inTime(0), 1);
        x.heir(2, 1);
        doc.due("B's own", x.told(21), 1);
        doc.due("B's, in two days", x.inTime(0), 1);
        Courts.done(x, "A1:.");
        doc.due("A flinches in B's", Courts.done(x, "A!"), 1);
        doc.due("B gives back in his own", Courts.done(x, "B="), 1);
        doc.due("by a fourth", x.state(0, 1), 97);
        x = owedToC();
        x.heir(2, 1);
        Courts.done(x, ":.");
        doc.due("A flinches in C's", Courts.why(x, "A!"), 6);
        doc.due("B gives back", Courts.done(x, "B="), 1);
        doc.due("A is not in B's", x.state(0, 2), 9995);
        x = owedToC();
        x.heir(2, 3);
        doc.due("D's own", x.told(41), 2);
        doc.due("D's, in eighteen days", x.inTime(0), 0);
        doc.due("not all", x.round(0, 0), 0);
        doc.due("none", x.round(0, 1), 0);
    }

    /** A owes C 8 on day 11, in chapel 0, where both are. */
    private static BlowOwed owedToC() {
        BlowOwed x = new BlowOwed();
        x.chapels(3);
        x.yearOf(10);
        x.road(0, 1, 1);
        x.road(0, 2, 9);
        x.knight(0, 0, 20, 99, 0);
        x.knight(1, 1, 20, 99, 0);
        x.knight(2, 0, 20, 99, 0);
        x.knight(3, 2, 20, 99, 0);
        Courts.done(x, "AC08");
        return x;
    }

    private void heirsOfBothSides() {
        BlowOwed x = Courts.strong(3);
        Courts.done(x, "AB20BA20AB09AC04BA08CB06");
        doc.due("B is no more", x.heir(1, 0), 2);
        doc.due("both were A", x.debt(-1, 0), 2);
        doc.due("A's to C", Courts.debt(x, 0), 2040011L);
        doc.due("C's to B is to A", Courts.debt(x, 1), 20030011L);
        x = Courts.strong(2);
        Courts.done(x, "AB02".repeat(12));
        x.heir(0, 1);
        doc.due("twelve are no more", x.debt(-1, 0), 0);
        x = Courts.strong(3);
        Courts.done(x, "AB02".repeat(12));
        x.heir(1, 2);
        doc.due("twelve are C's", x.debt(-1, 0), 12);
        doc.due("the twelfth", Courts.debt(x, 11), 2010011L);
    }

    private void heirsOnRoads() {
        BlowOwed x = Courts.shortYear();
        Courts.done(x, "AC04CA02A1");
        doc.due("of one on a road", x.heir(0, 1), 2);
        doc.due("his debts", x.debt(-1, 0), 2);
        x.knight(0, 0, 1, 1, 0);
        doc.due("he comes, and not on a road", x.state(0, 0), 0);
        doc.due("nor with debts", x.inTime(0), 0);
        Courts.done(x, "B0");
        doc.due("one on a road is heir", x.heir(2, 1), 2);
        doc.due("both are he", x.debt(-1, 0), 0);
        doc.due("he is on his road", x.state(1, 0), NONE);
    }
}
