/** All that can be seen of an object. */
final class Picture {
    private Picture() {
    }

    /** The first image is looked at too, which makes it what is: an object is of no other use then. */
    static String of(BlowOwed x) {
        StringBuilder all = new StringBuilder(now(x));
        all.append(" restored ").append(x.restore(0)).append(':');
        return all.append(now(x)).append(" other ").append(x.restore(1)).toString();
    }

    private static String now(BlowOwed x) {
        StringBuilder all = new StringBuilder();
        for (int what = 0; what < 6; what++) {
            all.append(x.told(what)).append(' ');
        }
        all.append("pad ").append(x.fault()).append(' ').append(x.judge(0)).append(' ').append(x.judge(1)).append(' ');
        for (int what = 0; what < 3; what++) {
            all.append(x.who(what)).append(' ');
        }
        addLand(x, all);
        for (int knight = 0; knight < 6; knight++) {
            addKnight(x, knight, all);
        }
        int debts = x.debt(-1, 0);
        for (int i = 0; i < debts; i++) {
            all.append(" debt ").append(Courts.debt(x, i));
        }
        return all.toString();
    }

    private static void addLand(BlowOwed x, StringBuilder all) {
        int chapels = x.told(1);
        for (int one = 0; one < chapels; one++) {
            for (int other = 0; other < one; other++) {
                all.append(x.told(100 * (1 + one) + other)).append(' ');
            }
        }
    }

    private static void addKnight(BlowOwed x, int knight, StringBuilder all) {
        all.append(" knight ").append(x.told(10 * (1 + knight))).append(' ').append(x.told(10 * (1 + knight) + 1));
        for (int what = 0; what < 4; what++) {
            all.append(' ').append(x.state(knight, what));
        }
        for (int chapel = 0; chapel < x.told(1); chapel++) {
            all.append(' ').append(x.when(knight, chapel));
        }
    }
}
