import java.util.Random;

/** Runs of calls by draws, each answer against that of the plain telling of the document. */
public final class RandomRunsTest {
    private static final int RUNS = 1500;
    private static final int CALLS = 430;

    private final Random random;
    private final BlowOwed real = new BlowOwed();
    private final Plain plain = new Plain();
    private final Check check;
    private final StringBuilder told = new StringBuilder();
    private int calls;

    private RandomRunsTest(Check check, int seed) {
        this.check = check;
        this.random = new Random(seed);
    }

    public static void main(String[] args) {
        Check check = new Check();
        for (int seed = 0; seed < RUNS && check.isClean(); seed++) {
            RandomRunsTest run = new RandomRunsTest(check, seed);
            run.go();
            if (!check.isClean()) {
                System.out.println("run " + seed + ":" + run.told);
            }
        }
        check.end();
    }

    private void go() {
        settle();
        while (calls < CALLS && check.isClean()) {
            step();
        }
    }

    private void same(String call, long got, long want) {
        calls++;
        told.append(' ').append(call);
        check.due(call, got, want);
    }

    /** Mostly a number that is as told, now and then one beside it. */
    private int near(int least, int most) {
        int kind = random.nextInt(24);
        if (kind == 0) {
            return least - 1 - random.nextInt(2);
        }
        if (kind == 1) {
            return most + 1 + random.nextInt(2);
        }
        if (kind == 2) {
            return random.nextBoolean() ? least : most;
        }
        return least + random.nextInt(most - least + 1);
    }

    private void settle() {
        if (random.nextInt(3) > 0) {
            int n = near(2, 5);
            same("chapels(" + n + ")", real.chapels(n), plain.chapels(n));
        }
        if (random.nextInt(3) > 0) {
            int days = random.nextBoolean() ? near(10, 120) : near(10, 400);
            same("yearOf(" + days + ")", real.yearOf(days), plain.yearOf(days));
        }
        int roads = random.nextInt(8);
        for (int i = 0; i < roads; i++) {
            road();
        }
        int knights = 2 + random.nextInt(6);
        for (int i = 0; i < knights; i++) {
            knight();
        }
    }

    private void road() {
        int c = near(0, 4);
        int o = near(0, 4);
        int days = random.nextBoolean() ? near(0, 99) : near(1, 12);
        same("road(" + c + "," + o + "," + days + ")", real.road(c, o, days), plain.road(c, o, days));
    }

    private void knight() {
        int k = near(0, 5);
        int c = random.nextBoolean() ? random.nextInt(2) : near(0, 3);
        int strength = near(1, 20);
        int bears = random.nextBoolean() ? near(1, 99) : near(1, 20);
        int honour = near(0, 99);
        same("knight(" + k + "," + c + "," + strength + "," + bears + "," + honour + ")",
            real.knight(k, c, strength, bears, honour), plain.knight(k, c, strength, bears, honour));
    }

    private void step() {
        int kind = random.nextInt(100);
        if (kind < 45) {
            court();
        } else if (kind < 60) {
            look();
        } else if (kind < 75) {
            reckon();
        } else if (kind < 85) {
            change();
        } else {
            lookAround();
        }
    }

    private void change() {
        switch (random.nextInt(8)) {
            case 0: {
                int k = near(0, 5);
                int h = near(0, 5);
                same("heir(" + k + "," + h + ")", real.heir(k, h), plain.heir(k, h));
                break;
            }
            case 1:
                road();
                break;
            case 2:
                knight();
                break;
            case 3: {
                int n = near(0, 1);
                same("image(" + n + ")", real.image(n), plain.image(n));
                break;
            }
            case 4: {
                int n = near(0, 1);
                same("restore(" + n + ")", real.restore(n), plain.restore(n));
                break;
            }
            case 5: {
                int k = near(0, 5);
                int much = near(1, 20);
                same("seen(" + k + "," + much + ")", real.seen(k, much), plain.seen(k, much));
                break;
            }
            case 6: {
                int days = near(10, 400);
                same("yearOf(" + days + ")", real.yearOf(days), plain.yearOf(days));
                break;
            }
            default:
                rare();
                break;
        }
    }

    private void rare() {
        if (random.nextInt(3) == 0) {
            same("forget()", real.forget(), plain.forget());
        } else if (random.nextInt(8) == 0) {
            settle();
        }
    }

    private void write(String text) {
        for (int i = 0; i < text.length(); i++) {
            int sign = text.charAt(i);
            same("say(" + sign + ")", real.say(sign), plain.say(sign));
        }
    }

    private char letter() {
        return (char) ('A' + (random.nextInt(40) == 0 ? random.nextInt(8) : random.nextInt(6)));
    }

    private char present() {
        for (int i = 0; i < 20; i++) {
            int k = random.nextInt(6);
            if (plain.state(k, 3) == 0) {
                return (char) ('A' + k);
            }
        }
        return letter();
    }

    private String oneAct() {
        switch (random.nextInt(9)) {
            case 0:
            case 1:
            case 2: {
                int much = random.nextInt(30) == 0 ? random.nextInt(30) : 1 + random.nextInt(random.nextBoolean() ? 4 : 20);
                return "" + present() + present() + (much < 10 ? "0" : "") + much;
            }
            case 3:
                return "" + present() + random.nextInt(random.nextInt(9) == 0 ? 6 : 4);
            case 4:
                return "" + present() + "=!/".charAt(random.nextInt(3));
            case 5:
                return ".";
            case 6:
                return random.nextInt(3) == 0 ? ":" : ".";
            case 7:
                return toDueDay();
            default:
                return random.nextInt(40) == 0 ? "" + (char) (33 + random.nextInt(94)) : "" + letter() + "/";
        }
    }

    /** Goes on to the day of a debt, or beside it, and does there what can be done about it. */
    private String toDueDay() {
        int many = plain.debt(-1, 0);
        if (many == 0) {
            return ".";
        }
        int i = random.nextInt(many);
        int days = plain.debt(i, 3) - plain.told(3) + (random.nextInt(6) == 0 ? random.nextInt(3) - 1 : 0);
        StringBuilder text = new StringBuilder();
        text.append(";".repeat(Math.max(0, days / 100)));
        text.append(":".repeat(Math.max(0, days % 100 / 10)));
        text.append(".".repeat(Math.max(0, days % 10)));
        if (random.nextBoolean()) {
            text.append((char) ('A' + plain.debt(i, 0))).append('!');
        }
        if (random.nextInt(4) > 0) {
            text.append((char) ('A' + plain.debt(i, 1))).append('=');
        }
        return text.toString();
    }

    private void court() {
        if (random.nextInt(4) > 0) {
            same("wipe()", real.wipe(), plain.wipe());
        }
        int acts = random.nextInt(4) == 0 ? random.nextInt(14) : 1 + random.nextInt(3);
        StringBuilder text = new StringBuilder();
        for (int i = 0; i < acts; i++) {
            text.append(oneAct());
        }
        write(text.toString());
        if (random.nextBoolean()) {
            same("fault()", real.fault(), plain.fault());
            int what = near(0, 1);
            same("judge(" + what + ")", real.judge(what), plain.judge(what));
            int k = near(0, 5);
            what = near(0, 3);
            same("behind(" + k + "," + what + ")", real.behind(k, what), plain.behind(k, what));
        }
        same("judge(1)", real.judge(1), plain.judge(1));
        same("done()", real.done(), plain.done());
    }

    private void look() {
        int k = near(0, 5);
        int what;
        switch (random.nextInt(4)) {
            case 0: {
                int c = near(0, 4);
                same("when(" + k + "," + c + ")", real.when(k, c), plain.when(k, c));
                break;
            }
            case 1:
                same("inTime(" + k + ")", real.inTime(k), plain.inTime(k));
                break;
            case 2:
                what = near(0, 2);
                same("round(" + k + "," + what + ")", real.round(k, what), plain.round(k, what));
                break;
            default: {
                int o = near(0, 5);
                int worth = near(0, 20);
                int fear = near(0, 20);
                what = near(0, 1);
                same("hard(" + k + "," + o + "," + worth + "," + fear + "," + what + ")",
                    real.hard(k, o, worth, fear, what), plain.hard(k, o, worth, fear, what));
                break;
            }
        }
    }

    private void reckon() {
        switch (random.nextInt(6)) {
            case 0: {
                int d = random.nextBoolean() ? near(0, 99999) : near(0, 800);
                int e = near(0, 99);
                int what = near(0, 2);
                same("reckoned(" + d + "," + e + "," + what + ")", real.reckoned(d, e, what), plain.reckoned(d, e, what));
                break;
            }
            case 1: {
                int m = near(0, 8);
                int t = near(0, 10);
                int u = near(0, 10);
                int part = near(0, 1);
                String args = m + "," + t + "," + u;
                same("kept(" + args + "," + part + ")", real.kept(m, t, u, part), plain.kept(m, t, u, part));
                same("keeps(" + args + ")", real.keeps(m, t, u), plain.keeps(m, t, u));
                break;
            }
            case 2: {
                int what = near(0, 2);
                same("who(" + what + ")", real.who(what), plain.who(what));
                break;
            }
            case 3: {
                int m = near(0, 6);
                int k = near(0, 10);
                int t = near(0, 10);
                int part = near(0, 1);
                same("snow(" + m + "," + k + "," + t + "," + part + ")", real.snow(m, k, t, part), plain.snow(m, k, t, part));
                break;
            }
            default: {
                int seed = near(0, 9999);
                int m = near(1, 99);
                int what = near(0, 3);
                same("year(" + seed + "," + m + "," + what + ")", real.year(seed, m, what), plain.year(seed, m, what));
                break;
            }
        }
    }

    private void lookAround() {
        same("settled()", real.settled(), plain.settled());
        same("ring()", real.ring(), plain.ring());
        int i = near(-1, 11);
        int what = near(0, 3);
        same("debt(" + i + "," + what + ")", real.debt(i, what), plain.debt(i, what));
        int k = near(0, 5);
        same("state(" + k + "," + what + ")", real.state(k, what), plain.state(k, what));
        what = random.nextBoolean() ? near(0, 62) : near(0, 600);
        same("told(" + what + ")", real.told(what), plain.told(what));
    }
}
