/** Section 1 on why an act can not be: each reason, and of two the lesser one. */
final class ReasonEdges {
    private static final int NONE = BlowOwed.NONE;
    private final Sentences doc;

    ReasonEdges(Sentences doc) {
        this.doc = doc;
    }

    void run() {
        doc.says("An ACT can not be for the least of these reasons:");
        leastOfBlows();
        leastOfOthers();
        notThere();
        onARoad();
        apart();
        tooHard();
        noRoad();
        notDue();
        twelve();
    }

    /** A and C in chapel 0, B in chapel 1, D dead in chapel 0, E on a road; F is not there. A road takes two days. */
    private static BlowOwed mixed() {
        BlowOwed x = Courts.shortYear();
        x.knight(3, 0, 2, 2, 0);
        x.knight(4, 0, 2, 2, 0);
        Courts.done(x, "AD02E1");
        return x;
    }

    private void why(BlowOwed x, String text, int want) {
        doc.due(text, Courts.why(x, text), want);
    }

    private void leastOfBlows() {
        BlowOwed x = mixed();
        why(x, "EE01", 1);
        why(x, "EE20", 1);
        why(x, "EF01", 1);
        why(x, "ED20", 1);
        why(x, "FE20", 1);
        why(x, "BF20", 1);
        why(x, "BD20", 1);
        why(x, "AA20", 1);
        why(x, "AE20", 2);
        why(x, "EA20", 2);
        why(x, "EB20", 2);
        why(x, "AB20", 3);
        why(x, "AC20", 4);
        Courts.done(x, "CA01".repeat(12));
        why(x, "FA20", 1);
        why(x, "AA01", 1);
        why(x, "EA01", 2);
        why(x, "BA01", 3);
        why(x, "CA04", 4);
        why(x, "CA03", 7);
    }

    private void leastOfOthers() {
        BlowOwed x = mixed();
        for (String text : new String[] {"F0", "F2", "F=", "F!", "F/", "D0", "D1", "D2", "D=", "D!", "D/"}) {
            why(x, text, 1);
        }
        for (String text : new String[] {"E0", "E1", "E2", "E=", "E!", "E/"}) {
            why(x, text, 2);
        }
    }

    private void notThere() {
        doc.says("1 a KNIGHT is not there, or is DEAD, or both are one;");
        BlowOwed x = mixed();
        why(x, "FA01", 1);
        why(x, "AF01", 1);
        why(x, "DA01", 1);
        why(x, "AD01", 1);
        why(x, "AA01", 1);
        why(x, "BB01", 1);
        why(new BlowOwed(), "A/", 1);
        doc.due("he is no more", x.heir(1, 0), 4);
        why(x, "B0", 1);
        doc.due("dead by this court", Courts.why(x, "AC08AC01C1"), 201);
        doc.due("struck dead by this court", Courts.why(x, "AC08AC01AC01"), 201);
    }

    private void onARoad() {
        doc.says("2 he (or the second one) is on a ROAD;");
        BlowOwed x = Courts.shortYear();
        why(x, "A1AC01", 102);
        why(x, "A1CA01", 102);
        why(x, "A1.AC01", 202);
        why(x, "A1.CA01", 202);
        why(x, "A1..CA01", 303);
        why(x, "A1..BA01", NONE);
        why(x, "A1..AB01", NONE);
        why(x, "A1.A0", 202);
        why(x, "A1..A0", NONE);
        why(x, "CA01A1.A/", 302);
        why(x, "CA01A1..A/", NONE);
        why(x, "A1C1AC01", 202);
    }

    private void apart() {
        doc.says("3 both are not in one CHAPEL;");
        BlowOwed x = Courts.shortYear();
        why(x, "AB01", 3);
        why(x, "BA01", 3);
        why(x, "A1..AC01", 303);
        why(x, "A1C1..AC01", NONE);
    }

    private void tooHard() {
        doc.says("4 so hard he can not strike;");
        BlowOwed x = Courts.shortYear();
        why(x, "AC08", NONE);
        why(x, "AC09", 4);
        why(x, "AC20", 4);
        why(x, "CA03", NONE);
        why(x, "CA04", 4);
    }

    private void noRoad() {
        doc.says("5 there is no such ROAD (also to where he is);");
        BlowOwed x = Courts.shortYear();
        why(x, "A0", 5);
        why(x, "A1", NONE);
        why(x, "A2", 5);
        why(x, "B1", 5);
        why(x, "B0", NONE);
        why(x, "B2", NONE);
        why(x, "A1..A1", 305);
        why(x, "A1..A2......A2", 1005);
        x.road(0, 1, 0);
        why(x, "A1", 5);
        why(x, "B0", 5);
    }

    private void notDue() {
        doc.says("6 = he is not in his own CHAPEL, or nobody owes him anything this day;");
        BlowOwed x = Courts.shortYear();
        why(x, "C=", 6);
        why(x, "AC01:C=", 206);
        why(x, "AC01:.C=", NONE);
        why(x, "AC01:..C=", 406);
        why(x, "AC01C1:.C=", 406);
        why(x, "AC01C1:C0.C=", 502);
        why(x, "AC01C1......C0.....C=", NONE);
        why(x, "AC01:.A=", 306);
        why(x, "AC01:.C=C=", 406);
        doc.says("! he owes nobody anything this day in whose own CHAPEL he is;");
        why(x, "A!", 6);
        why(x, "AC01:A!", 206);
        why(x, "AC01:.A!", NONE);
        why(x, "AC01:..A!", 406);
        why(x, "AC01A1:.A!", 406);
        why(x, "AC01:.C!", 306);
        why(x, "AC01:.C=A!", 406);
        // Here the chapel of who is owed counts, not whether he is in it.
        why(x, "AC01C1:.A!", NONE);
        doc.says("/ nobody owes him anything;");
        why(x, "C/", 6);
        why(x, "AC01C/", NONE);
        why(x, "AC01A/", 106);
        why(x, "AC01:.C/", NONE);
        why(x, "AC01:..C/", 406);
        why(x, "AC01C/C/", 206);
        why(x, "AC01C1..C/", NONE);
    }

    private void twelve() {
        doc.says("7 there are twelve DEBTS.");
        BlowOwed x = Courts.shortYear();
        Courts.done(x, "CA01".repeat(11));
        why(x, "CA01", NONE);
        why(x, "CA01CA01", 107);
        Courts.done(x, "AC01");
        why(x, "CA01", 7);
        why(x, "AC01", 7);
        doc.due("also one that he could not bear", Courts.why(x, "AC08"), 7);
        why(x, "A1", NONE);
        why(x, "A/", NONE);
        why(x, "A/CA01", NONE);
        why(x, "C/CA01CA01", 207);
        why(x, ":.C=CA01", NONE);
        why(x, ":.A!", NONE);
    }
}
