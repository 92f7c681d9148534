import java.util.Random;

/**
 * Runs by draws in which much is owed: acts that can be, mostly, short years, heirs of other chapels; all that can be
 * asked of debts is asked behind each court, against the plain telling of the document.
 */
public final class DenseRunsTest {
    private static final int RUNS = 150;
    private static final int COURTS = 12;
    private static final int MOST_SIGNS = 60;

    private final Random random;
    private final BlowOwed real = new BlowOwed();
    private final Plain plain = new Plain();
    private final Check check;
    private final StringBuilder told = new StringBuilder();
    private int chapels;

    private DenseRunsTest(Check check, int seed) {
        this.check = check;
        this.random = new Random(seed);
    }

    public static void main(String[] args) {
        Check check = new Check();
        for (int seed = 0; seed < RUNS && check.isClean(); seed++) {
            DenseRunsTest run = new DenseRunsTest(check, seed);
            run.go();
            if (!check.isClean()) {
                System.out.println("run " + seed + ":" + run.told);
            }
        }
        check.end();
    }

    private void go() {
        settle();
        for (int i = 0; i < COURTS && check.isClean(); i++) {
            court();
            lookAtAll();
            change();
        }
    }

    private void same(String call, long got, long want) {
        told.append(' ').append(call);
        check.due(call, got, want);
    }

    private int draw(int least, int most) {
        return least + random.nextInt(most - least + 1);
    }

    private void settle() {
        chapels = draw(2, 5);
        same("chapels(" + chapels + ")", real.chapels(chapels), plain.chapels(chapels));
        int days = random.nextInt(3) == 0 ? draw(88, 120) : draw(10, 40);
        same("yearOf(" + days + ")", real.yearOf(days), plain.yearOf(days));
        int longest = random.nextBoolean() ? 4 : 30;
        for (int one = 0; one < chapels; one++) {
            for (int other = one + 1; other < chapels; other++) {
                road(one, other, random.nextInt(6) == 0 ? 0 : draw(1, longest));
            }
        }
        // Some runs begin with all in one chapel, so that all can strike at once.
        int most = random.nextBoolean() ? 0 : chapels - 1;
        for (int knight = 0; knight < 6; knight++) {
            knight(knight, draw(0, most));
        }
    }

    private void road(int one, int other, int days) {
        same("road(" + one + "," + other + "," + days + ")", real.road(one, other, days), plain.road(one, other, days));
    }

    private void knight(int knight, int chapel) {
        int strength = draw(1, 20);
        int bears = random.nextInt(4) == 0 ? draw(1, 12) : draw(30, 99);
        int honour = draw(0, 99);
        same("knight(" + knight + "," + chapel + "," + strength + "," + bears + "," + honour + ")",
            real.knight(knight, chapel, strength, bears, honour), plain.knight(knight, chapel, strength, bears, honour));
    }

    private void court() {
        StringBuilder text = new StringBuilder(random.nextInt(3) == 0 ? toDueDay() : "");
        int acts = draw(1, 10);
        for (int i = 0; i < acts; i++) {
            String act = actThatCanBe(text.toString());
            if (text.length() + act.length() <= MOST_SIGNS) {
                text.append(act);
            }
        }
        write(text.toString());
        same("judge(0)", real.judge(0), plain.judge(0));
        same("judge(1)", real.judge(1), plain.judge(1));
        for (int knight = 0; knight < 6; knight++) {
            int what = draw(0, 3);
            same("behind(" + knight + "," + what + ")", real.behind(knight, what), plain.behind(knight, what));
        }
        same("done() " + text, real.done(), plain.done());
    }

    private void write(String text) {
        // Not compared: what was tried stands on one pad alone.
        real.wipe();
        plain.wipe();
        for (int i = 0; i < text.length() && i < MOST_SIGNS; i++) {
            same("say", real.say(text.charAt(i)), plain.say(text.charAt(i)));
        }
    }

    /** By asking; now and then the last try, which can not be. */
    private String actThatCanBe(String before) {
        String act = ".";
        for (int i = 0; i < 30; i++) {
            act = anyAct();
            if (before.length() + act.length() <= MOST_SIGNS && Courts.why(real, before + act) == BlowOwed.NONE) {
                return act;
            }
        }
        return random.nextInt(8) == 0 ? act : ".";
    }

    private String anyAct() {
        char knight = (char) ('A' + draw(0, 5));
        switch (random.nextInt(10)) {
            case 0:
            case 1:
                return "" + knight + draw(0, chapels - 1);
            case 2:
                return knight + "=";
            case 3:
                return knight + (random.nextInt(10) == 0 ? "/" : "!");
            case 4:
                return ".";
            default:
                return Courts.blow(knight, (char) ('A' + draw(0, 5)), draw(1, random.nextInt(3) == 0 ? 9 : 3));
        }
    }

    private String toDueDay() {
        int many = real.debt(-1, 0);
        if (many == 0) {
            return "";
        }
        int days = real.debt(random.nextInt(many), 3) - real.told(3);
        return ";".repeat(days / 100) + ":".repeat(days % 100 / 10) + ".".repeat(days % 10);
    }

    private void lookAtAll() {
        int many = real.debt(-1, 0);
        same("debt(-1,0)", many, plain.debt(-1, 0));
        for (int i = 0; i < many; i++) {
            for (int what = 0; what < 4; what++) {
                same("debt(" + i + "," + what + ")", real.debt(i, what), plain.debt(i, what));
            }
        }
        for (int knight = 0; knight < 6; knight++) {
            lookAt(knight);
        }
        same("settled()", real.settled(), plain.settled());
        same("ring()", real.ring(), plain.ring());
        int seed = draw(0, 9999);
        int turns = draw(1, 40);
        int what = draw(0, 3);
        same("year(" + seed + "," + turns + "," + what + ")", real.year(seed, turns, what), plain.year(seed, turns, what));
    }

    private void lookAt(int knight) {
        for (int what = 0; what < 4; what++) {
            same("state(" + knight + "," + what + ")", real.state(knight, what), plain.state(knight, what));
        }
        same("inTime(" + knight + ")", real.inTime(knight), plain.inTime(knight));
        for (int what = 0; what < 3; what++) {
            same("round(" + knight + "," + what + ")", real.round(knight, what), plain.round(knight, what));
        }
        int chapel = draw(0, chapels - 1);
        same("when(" + knight + "," + chapel + ")", real.when(knight, chapel), plain.when(knight, chapel));
    }

    private void change() {
        int image = draw(0, 1);
        switch (random.nextInt(8)) {
            case 0:
            case 1:
                heir();
                break;
            case 2:
                same("image(" + image + ")", real.image(image), plain.image(image));
                break;
            case 3:
                same("restore(" + image + ")", real.restore(image), plain.restore(image));
                lookAtAll();
                break;
            case 4:
                road(draw(0, chapels - 1), draw(0, chapels - 1), draw(0, 9));
                lookAtAll();
                break;
            default:
                break;
        }
    }

    /** Who goes comes again now and then, of another chapel, and nobody owes him anything then. */
    private void heir() {
        int knight = draw(0, 5);
        int heir = draw(0, 5);
        same("heir(" + knight + "," + heir + ")", real.heir(knight, heir), plain.heir(knight, heir));
        lookAtAll();
        if (random.nextBoolean()) {
            knight(knight, draw(0, chapels - 1));
            lookAtAll();
        }
    }
}
