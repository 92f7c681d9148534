/** Section 1 on the pad, the acts' signs and THE FAULT; promises 7 to 9. */
final class PadEdges {
    private static final int NONE = BlowOwed.NONE, OUTSIDE = BlowOwed.OUTSIDE, FULL = BlowOwed.FULL;
    private final Sentences doc;

    PadEdges(Sentences doc) {
        this.doc = doc;
    }

    void run() {
        sixtySigns();
        blows();
        acts();
        days();
        faultOfEachSign();
        faultBehindOthers();
        say();
        wipe();
        fault();
    }

    private static int faultOf(int chapels, String text) {
        BlowOwed x = new BlowOwed();
        x.chapels(chapels);
        Courts.write(x, text);
        return x.fault();
    }

    private void sixtySigns() {
        doc.says("A COURT is a text on a PAD (60 SIGNS at most, codes 33 to 126) of ACTS:");
        BlowOwed x = Courts.strong(2);
        for (int i = 1; i <= 60; i++) {
            doc.due("sign " + i, x.say(i % 2 == 1 ? 33 : 126), i);
        }
        doc.due("sign 61", x.say(33), FULL);
        Courts.write(x, "AB01BA01".repeat(6) + "AB01" + "........");
        doc.due("sixty signs, no fault", x.fault(), NONE);
        doc.due("the thirteenth blow", x.judge(0), 12);
        doc.due("and why", x.judge(1), 7);
        doc.due("twenty-two acts", Courts.done(x, "AB01BA01".repeat(6) + "A/B/" + "........"), 22);
        doc.due("eight days", x.told(3), 8);
        doc.due("an empty one", x.done(), 0);
        doc.due("is no fault", x.fault(), NONE);
        doc.due("and can be", x.judge(1), NONE);
    }

    private void blows() {
        doc.says("two letters A to F and two digits 01 to 20 (the first strikes the second by so much);");
        for (int much = 0; much <= 99; much++) {
            int want = much >= 1 && much <= 20 ? NONE : much == 0 || much / 10 == 2 ? 3 : 2;
            doc.due("by " + much, faultOf(4, Courts.blow('A', 'B', much)), want);
        }
        for (char one = '@'; one <= 'H'; one++) {
            boolean isLetter = one >= 'A' && one <= 'F';
            doc.due("first " + one, faultOf(4, Courts.blow(one, 'F', 1)), isLetter ? NONE : 0);
            doc.due("second " + one, faultOf(4, Courts.blow('F', one, 1)), isLetter ? NONE : 1);
        }
        for (int much = 1; much <= 20; much++) {
            BlowOwed x = Courts.strong(6);
            Courts.done(x, Courts.blow('F', 'E', much));
            doc.due("struck by", x.state(4, 1), 99 - much);
            doc.due("who struck is not", x.state(5, 1), 99);
            doc.due("the debt", Courts.debt(x, 0), 54000011L + 10000L * much);
        }
    }

    private void acts() {
        doc.says("a letter A to F and: a digit 0 to 4 (he sets out to that CHAPEL), = (he gives back), ! (he flinches), or / (he remits);");
        for (char knight = 'A'; knight <= 'F'; knight++) {
            for (char sign : "01234=!/".toCharArray()) {
                doc.due("" + knight + sign, faultOf(5, "" + knight + sign), NONE);
            }
            doc.due(knight + "5", faultOf(5, knight + "5"), 1);
            doc.due(knight + "9", faultOf(5, knight + "9"), 1);
        }
        for (int chapel = 1; chapel < 5; chapel++) {
            BlowOwed x = new BlowOwed();
            x.chapels(5);
            x.road(0, chapel, 1);
            x.knight(5, 0, 1, 1, 0);
            Courts.done(x, "F" + chapel + "..");
            doc.due("he is in", x.state(5, 0), chapel);
        }
    }

    private void days() {
        doc.says(". (a day passes), : (ten days), ; (a hundred).");
        String[] texts = {"", ".", ":", ";", ".:;", ";;;...", ":".repeat(60), ";".repeat(60), ".".repeat(60)};
        int[] days = {0, 1, 10, 100, 111, 303, 600, 6000, 60};
        for (int i = 0; i < texts.length; i++) {
            BlowOwed x = new BlowOwed();
            doc.due("acts of " + texts[i], Courts.done(x, texts[i]), texts[i].length());
            doc.due("days of " + texts[i], x.told(3), days[i]);
        }
    }

    /** Each sign that can be on a pad, behind each beginning of an act. */
    private void faultOfEachSign() {
        doc.says("THE FAULT: the place (from 0 on) of the first sign that can not stand there (a digit of a CHAPEL that there is not, too); "
            + "the number of signs, if more must come.");
        for (int chapels = 2; chapels <= 5; chapels++) {
            String[] begins = {"", "C", "CD", "CD0", "CD1", "CD2"};
            String chapelSigns = "01234".substring(0, chapels);
            String[] ends = {".:;", chapelSigns + "=!/", "", "123456789", "0123456789", "0"};
            String[] more = {"ABCDEF", "ABCDEF", "012", "", "", ""};
            for (int i = 0; i < begins.length; i++) {
                for (char sign = 33; sign <= 126; sign++) {
                    String text = begins[i] + sign;
                    int want = ends[i].indexOf(sign) >= 0 ? NONE : more[i].indexOf(sign) >= 0 ? text.length() : begins[i].length();
                    doc.due(text + " of " + chapels, faultOf(chapels, text), want);
                }
            }
        }
    }

    private void faultBehindOthers() {
        doc.due("behind others", faultOf(4, "AB20.A3:F=x"), 10);
        doc.due("the first one", faultOf(4, "AB20xA9"), 4);
        doc.due("more behind others", faultOf(4, "AB20.A"), 6);
        doc.due("more behind others, two", faultOf(4, "AB20.AB"), 7);
        doc.due("more behind others, one", faultOf(4, "AB20.AB2"), 8);
        doc.due("the last of sixty", faultOf(4, ".".repeat(59) + "~"), 59);
        doc.due("a fifth digit", faultOf(4, "AB0101"), 4);
        doc.due("sixty and more must come", faultOf(4, ".".repeat(59) + "F"), 60);
        doc.due("sixty and two more", faultOf(4, ".".repeat(58) + "AB"), 60);
        doc.due("sixty and one more", faultOf(4, ".".repeat(57) + "AB2"), 60);
        doc.due("sixty", faultOf(4, ".".repeat(56) + "AB20"), NONE);
        BlowOwed x = new BlowOwed();
        Courts.write(x, "AB01");
        Courts.write(x, "A");
        doc.due("signs that went do not come", x.fault(), 1);
        x.say('B');
        doc.due("nor then", x.fault(), 2);
        x.say('2');
        doc.due("nor then, a digit", x.fault(), 3);
    }

    private void say() {
        doc.says("`int say(int sign)`: A sign more: how many. OUTSIDE; FULL.");
        BlowOwed x = new BlowOwed();
        int[] wrong = {32, 127, 0, -1, 128, 255, 256 + 65, 65536 + 65, Integer.MIN_VALUE, Integer.MAX_VALUE};
        for (int sign : wrong) {
            doc.due("say(" + sign + ")", x.say(sign), OUTSIDE);
        }
        doc.due("the first", x.say(33), 1);
        doc.due("the second", x.say(126), 2);
        for (int i = 3; i <= 60; i++) {
            doc.due("say " + i, x.say('A'), i);
        }
        doc.due("one more", x.say('A'), FULL);
        doc.due("again", x.say('A'), FULL);
        doc.due("sixty", x.told(0), 60);
    }

    private void wipe() {
        doc.says("`int wipe()`: Signs go: how many there were.");
        BlowOwed x = new BlowOwed();
        doc.due("none", x.wipe(), 0);
        Courts.write(x, "A");
        doc.due("one", x.wipe(), 1);
        Courts.write(x, "~".repeat(60));
        doc.due("sixty", x.wipe(), 60);
        doc.due("none any more", x.wipe(), 0);
        doc.due("told", x.told(0), 0);
        doc.due("no fault", x.fault(), NONE);
        doc.due("there is room", x.say('.'), 1);
        doc.due("a day", x.done(), 1);
        doc.due("none behind done", x.wipe(), 0);
    }

    private void fault() {
        doc.says("`int fault()`: THE FAULT; NONE.");
        BlowOwed x = new BlowOwed();
        doc.due("an empty pad", x.fault(), NONE);
        x.chapels(5);
        Courts.write(x, "A4");
        doc.due("chapel 4 of five", x.fault(), NONE);
        x.chapels(4);
        doc.due("chapel 4 of four", x.fault(), 1);
        x.chapels(5);
        doc.due("of five again", x.fault(), NONE);
        doc.due("nobody there is no fault", Courts.why(x, "AA01"), 1);
    }
}
