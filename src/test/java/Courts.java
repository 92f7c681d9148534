/** What several tests begin with. */
final class Courts {
    private Courts() {
    }

    static void write(BlowOwed x, String text) {
        x.wipe();
        for (int i = 0; i < text.length(); i++) {
            x.say(text.charAt(i));
        }
    }

    static int done(BlowOwed x, String text) {
        write(x, text);
        return x.done();
    }

    /** So many days pass, in as few signs as it can be told in. */
    static void pass(BlowOwed x, int days) {
        done(x, ";".repeat(days / 100) + ":".repeat(days % 100 / 10) + ".".repeat(days % 10));
    }

    /** 100 times the act that can not be and why; NONE: all can be. */
    static int why(BlowOwed x, String text) {
        write(x, text);
        int act = x.judge(0);
        return act < 0 ? act : 100 * act + x.judge(1);
    }

    /** The i-th debt as striker, struck, how much, day, in one number. */
    static long debt(BlowOwed x, int i) {
        return x.debt(i, 0) * 10000000L + x.debt(i, 1) * 1000000L + x.debt(i, 2) * 10000L + x.debt(i, 3);
    }

    /** A blow's four signs. */
    static String blow(char striker, char struck, int much) {
        return "" + striker + struck + much / 10 + much % 10;
    }

    /** Knights of chapel 0, so many, all of strength 20 who bear 99, and a year of ten days. */
    static BlowOwed strong(int knights) {
        BlowOwed x = new BlowOwed();
        x.yearOf(10);
        for (int knight = 0; knight < knights; knight++) {
            x.knight(knight, 0, 20, 99, 50);
        }
        return x;
    }

    /** A year of ten days, all of them winter; a road of one day, so that it takes two. */
    static BlowOwed shortYear() {
        BlowOwed x = new BlowOwed();
        x.chapels(3);
        x.yearOf(10);
        x.road(0, 1, 1);
        x.road(1, 2, 3);
        x.knight(0, 0, 8, 20, 10);
        x.knight(1, 1, 6, 12, 5);
        x.knight(2, 0, 3, 9, 0);
        return x;
    }
}
