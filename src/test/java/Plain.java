import java.math.BigInteger;
import java.util.ArrayList;
import java.util.List;

/**
 * The document once more, as slowly and as literally as it can be said: days pass one by one, journeys are walked
 * day by day, and whatever is the most or the fewest is found by trying all.
 */
final class Plain {
    private static final int NONE = -6, UNKNOWN = -1, OUTSIDE = -2, STATE = -3, FULL = -4, NO = -5;

    private static final class Man {
        int own, strength, bears, honour, place, left;

        Man copy() {
            Man man = new Man();
            man.own = own;
            man.strength = strength;
            man.bears = bears;
            man.honour = honour;
            man.place = place;
            man.left = left;
            return man;
        }
    }

    private static final class Owed {
        int striker, struck, much, day;

        Owed(int striker, int struck, int much, int day) {
            this.striker = striker;
            this.struck = struck;
            this.much = much;
            this.day = day;
        }
    }

    private static final class World {
        int chapels = 4, year = 360, day = 0;
        int[][] roads = new int[5][5];
        Man[] men = new Man[6];
        List<Owed> owed = new ArrayList<>();
        List<int[]> sights = new ArrayList<>();

        World copy() {
            World world = new World();
            world.chapels = chapels;
            world.year = year;
            world.day = day;
            for (int i = 0; i < 5; i++) {
                world.roads[i] = roads[i].clone();
            }
            for (int i = 0; i < 6; i++) {
                world.men[i] = men[i] == null ? null : men[i].copy();
            }
            for (Owed one : owed) {
                world.owed.add(new Owed(one.striker, one.struck, one.much, one.day));
            }
            world.sights.addAll(sights);
            return world;
        }

        Man man(int k) {
            return k < 0 || k > 5 ? null : men[k];
        }

        boolean lives(int k) {
            return man(k) != null && man(k).bears > 0;
        }

        int many() {
            int many = 0;
            for (Man man : men) {
                many += man == null ? 0 : 1;
            }
            return many;
        }

        void blow(int k, int much) {
            men[k].bears = men[k].bears > much ? men[k].bears - much : 0;
            if (men[k].bears == 0) {
                owed.removeIf(one -> one.striker == k || one.struck == k);
            }
        }

        void nextDay() {
            for (Owed one : owed) {
                if (one.day == day) {
                    men[one.struck].honour -= 4;
                }
            }
            owed.removeIf(one -> one.day == day);
            for (Man man : men) {
                if (man != null && man.left > 0) {
                    man.left--;
                }
            }
            day++;
        }

        int why(String act) {
            char first = act.charAt(0);
            if (first == '.' || first == ':' || first == ';') {
                return 0;
            }
            int a = first - 'A';
            char second = act.charAt(1);
            boolean strike = act.length() == 4;
            int b = second - 'A';
            if (!lives(a) || strike && (!lives(b) || a == b)) {
                return 1;
            }
            if (men[a].left > 0 || strike && men[b].left > 0) {
                return 2;
            }
            if (strike) {
                if (men[a].place != men[b].place) {
                    return 3;
                }
                if (Integer.parseInt(act.substring(2)) > men[a].strength) {
                    return 4;
                }
                return owed.size() == 12 ? 7 : 0;
            }
            if (Character.isDigit(second)) {
                return roads[men[a].place][second - '0'] == 0 ? 5 : 0;
            }
            boolean can = false;
            for (Owed one : owed) {
                if (second == '=') {
                    can |= one.struck == a && one.day == day && men[a].place == men[a].own;
                } else if (second == '!') {
                    can |= one.striker == a && one.day == day && men[one.struck].own == men[a].place;
                } else {
                    can |= one.struck == a;
                }
            }
            return can ? 0 : 6;
        }

        void act(String act) {
            char first = act.charAt(0);
            int days = first == '.' ? 1 : first == ':' ? 10 : first == ';' ? 100 : 0;
            for (int i = 0; i < days; i++) {
                nextDay();
            }
            if (days > 0) {
                return;
            }
            int a = first - 'A';
            char second = act.charAt(1);
            if (act.length() == 4) {
                int much = Integer.parseInt(act.substring(2));
                int b = second - 'A';
                blow(b, much);
                if (men[b].bears > 0) {
                    owed.add(new Owed(a, b, much, day + year + 1));
                }
            } else if (second == '=') {
                giveBack(a);
            } else if (second == '!') {
                for (Owed one : owed) {
                    if (one.striker == a && one.day == day && men[one.struck].own == men[a].place) {
                        one.much /= 2;
                    }
                }
                men[a].honour -= 2;
            } else if (second == '/') {
                for (Owed one : owed) {
                    men[a].honour += one.struck == a ? 1 : 0;
                }
                owed.removeIf(one -> one.struck == a);
            } else {
                men[a].left = onRoad(men[a].place, second - '0', day);
                men[a].place = second - '0';
            }
        }

        int onRoad(int from, int to, int start) {
            return start % year < 90 ? 2 * roads[from][to] : roads[from][to];
        }

        void giveBack(int a) {
            for (Owed one : new ArrayList<>(owed)) {
                if (!owed.contains(one) || one.struck != a || one.day != day) {
                    continue;
                }
                owed.remove(one);
                Man striker = men[one.striker];
                if (striker.left == 0 && striker.place == men[a].own) {
                    striker.honour++;
                    men[a].honour += 3;
                    blow(one.striker, Math.min(one.much, men[a].strength));
                } else {
                    striker.honour -= 5;
                }
            }
        }

        /** Walks day by day; on the day of a debt that is to be met only its chapel counts. -1: never. */
        int walk(int k, List<Owed> met, int goal) {
            Man man = men[k];
            int last = goal < 0 ? lastDay(met) : day + 1400;
            boolean[][] at = new boolean[last - day + 300][5];
            if (man.left > last - day) {
                return -1;
            }
            at[man.left][man.place] = true;
            for (int d = day; d <= last; d++) {
                boolean[] today = at[d - day];
                for (Owed one : met) {
                    for (int c = 0; c < 5; c++) {
                        today[c] &= one.day != d || men[one.struck].own == c;
                    }
                }
                if (goal >= 0 && today[goal]) {
                    return d;
                }
                for (int c = 0; c < chapels; c++) {
                    at[d - day + 1][c] |= today[c];
                    for (int to = 0; to < chapels && today[c]; to++) {
                        int days = onRoad(c, to, d);
                        // Who is under way on the day of a debt is not at it.
                        if (days > 0 && noneBetween(met, d, d + days)) {
                            at[d - day + days][to] = true;
                        }
                    }
                }
            }
            boolean anywhere = false;
            for (boolean there : at[last - day]) {
                anywhere |= there;
            }
            return goal < 0 && anywhere ? last : -1;
        }

        static int lastDay(List<Owed> met) {
            int last = 0;
            for (Owed one : met) {
                last = Math.max(last, one.day);
            }
            return last;
        }

        boolean noneBetween(List<Owed> met, int from, int to) {
            for (Owed one : met) {
                if (one.day > from && one.day < to) {
                    return false;
                }
            }
            return true;
        }

        boolean meets(int k, List<Owed> met) {
            if (met.isEmpty()) {
                return true;
            }
            for (Owed one : met) {
                if (one.day < day + men[k].left) {
                    return false;
                }
            }
            return walk(k, met, -1) >= 0;
        }
    }

    private World world = new World();
    private String pad = "";
    private final World[] images = new World[2];

    int chapels(int n) {
        if (n < 2 || n > 5) {
            return OUTSIDE;
        }
        World next = new World();
        int before = world.chapels;
        next.chapels = n;
        next.year = world.year;
        world = next;
        return before;
    }

    private boolean chapel(int c) {
        return c >= 0 && c < world.chapels;
    }

    int road(int c, int o, int days) {
        if (!chapel(c) || !chapel(o) || c == o) {
            return UNKNOWN;
        }
        if (days < 0 || days > 99) {
            return OUTSIDE;
        }
        int before = world.roads[c][o];
        world.roads[c][o] = days;
        world.roads[o][c] = days;
        return before;
    }

    int yearOf(int days) {
        if (days < 10 || days > 400) {
            return OUTSIDE;
        }
        if (!world.owed.isEmpty()) {
            return STATE;
        }
        int before = world.year;
        world.year = days;
        return before;
    }

    int knight(int k, int c, int strength, int bears, int honour) {
        if (k < 0 || k > 5 || !chapel(c)) {
            return UNKNOWN;
        }
        if (strength < 1 || strength > 20 || bears < 1 || bears > 99 || honour < 0 || honour > 99) {
            return OUTSIDE;
        }
        if (world.men[k] != null) {
            return STATE;
        }
        Man man = new Man();
        man.own = c;
        man.place = c;
        man.strength = strength;
        man.bears = bears;
        man.honour = honour;
        world.men[k] = man;
        return world.many();
    }

    int heir(int k, int h) {
        if (world.man(k) == null || world.man(h) == null || k == h || !world.lives(h)) {
            return UNKNOWN;
        }
        world.men[k] = null;
        for (Owed one : world.owed) {
            if (one.striker == k || one.struck == k) {
                one.much /= 2;
                one.striker = one.striker == k ? h : one.striker;
                one.struck = one.struck == k ? h : one.struck;
                if (one.much == 0 || one.striker == one.struck) {
                    one.day = -1;
                }
            }
        }
        world.owed.removeIf(one -> one.day == -1);
        return world.many();
    }

    int say(int sign) {
        if (sign < 33 || sign > 126) {
            return OUTSIDE;
        }
        if (pad.length() == 60) {
            return FULL;
        }
        pad += (char) sign;
        return pad.length();
    }

    int wipe() {
        int before = pad.length();
        pad = "";
        return before;
    }

    /** A text can stand so far if it begins some text without a fault. */
    int fault() {
        String acts = "([A-F][A-F](0[1-9]|1[0-9]|20)|[A-F][0-" + (world.chapels - 1) + "=!/]|[.:;])*";
        String[] tails = {"", "=", "B01", "01", "1", "0", "20"};
        for (int end = 0; end <= pad.length(); end++) {
            boolean can = false;
            for (String tail : tails) {
                can |= (pad.substring(0, end) + tail).matches(acts);
            }
            if (!can) {
                return end - 1;
            }
        }
        return pad.matches(acts) ? NONE : pad.length();
    }

    private List<String> acts() {
        List<String> acts = new ArrayList<>();
        for (int i = 0; i < pad.length();) {
            int length = ".:;".indexOf(pad.charAt(i)) >= 0 ? 1 : Character.isLetter(pad.charAt(i + 1)) ? 4 : 2;
            acts.add(pad.substring(i, i + length));
            i += length;
        }
        return acts;
    }

    private int[] judged(World on) {
        int number = 0;
        for (String act : acts()) {
            int why = on.why(act);
            if (why != 0) {
                return new int[] {number, why};
            }
            on.act(act);
            number++;
        }
        return null;
    }

    int judge(int what) {
        if (what != 0 && what != 1) {
            return OUTSIDE;
        }
        if (fault() != NONE) {
            return NO;
        }
        int[] found = judged(world.copy());
        return found == null ? NONE : found[what];
    }

    int done() {
        World next = world.copy();
        if (fault() != NONE || judged(next) != null) {
            return NO;
        }
        int acts = acts().size();
        world = next;
        pad = "";
        return acts;
    }

    private static int state(Man man, int what) {
        int[] told = {man.left > 0 ? NONE : man.place, man.bears, man.honour + 10000, man.bears == 0 ? 1 : 0};
        return told[what];
    }

    int state(int k, int what) {
        if (world.man(k) == null) {
            return UNKNOWN;
        }
        return what < 0 || what > 3 ? OUTSIDE : state(world.men[k], what);
    }

    int behind(int k, int what) {
        if (world.man(k) == null) {
            return UNKNOWN;
        }
        if (what < 0 || what > 3) {
            return OUTSIDE;
        }
        World next = world.copy();
        if (fault() != NONE || judged(next) != null) {
            return NO;
        }
        return state(next.men[k], what);
    }

    int debt(int i, int what) {
        if (what < 0 || what > 3) {
            return OUTSIDE;
        }
        if (i == -1) {
            return world.owed.size();
        }
        if (i < 0 || i >= world.owed.size()) {
            return NONE;
        }
        Owed one = world.owed.get(i);
        return new int[] {one.striker, one.struck, one.much, one.day}[what];
    }

    int when(int k, int c) {
        if (!world.lives(k) || !chapel(c)) {
            return UNKNOWN;
        }
        int first = world.walk(k, new ArrayList<>(), c);
        return first < 0 ? NONE : first;
    }

    int inTime(int k) {
        if (!world.lives(k)) {
            return UNKNOWN;
        }
        int bits = 0;
        for (int i = 0; i < world.owed.size(); i++) {
            if (world.owed.get(i).striker == k && world.meets(k, List.of(world.owed.get(i)))) {
                bits += 1 << i;
            }
        }
        return bits;
    }

    int round(int k, int what) {
        if (!world.lives(k)) {
            return UNKNOWN;
        }
        if (what < 0 || what > 2) {
            return OUTSIDE;
        }
        List<Owed> his = new ArrayList<>();
        for (Owed one : world.owed) {
            if (one.striker == k) {
                his.add(one);
            }
        }
        if (what == 2) {
            return barred(k, his);
        }
        if (what == 0) {
            return world.meets(k, his) ? 1 : 0;
        }
        int most = 0;
        for (int set = 0; set < 1 << his.size(); set++) {
            if (Integer.bitCount(set) <= most) {
                continue;
            }
            List<Owed> some = new ArrayList<>();
            for (int i = 0; i < his.size(); i++) {
                if ((set >> i & 1) == 1) {
                    some.add(his.get(i));
                }
            }
            if (world.meets(k, some)) {
                most = some.size();
            }
        }
        return most;
    }

    private int barred(int k, List<Owed> his) {
        for (Owed one : his) {
            for (Owed other : his) {
                int i = world.owed.indexOf(one);
                int j = world.owed.indexOf(other);
                if (i < j && world.meets(k, List.of(one)) && world.meets(k, List.of(other))
                    && !world.meets(k, List.of(one, other))) {
                    return 100 * i + j;
                }
            }
        }
        return NONE;
    }

    int hard(int k, int o, int worth, int fear, int what) {
        if (!world.lives(k) || !world.lives(o) || k == o) {
            return UNKNOWN;
        }
        if (worth < 0 || worth > 20 || fear < 0 || fear > 20 || what < 0 || what > 1) {
            return OUTSIDE;
        }
        int best = -1;
        int most = Integer.MIN_VALUE;
        for (int s = 0; s <= world.men[k].strength; s++) {
            int gain = worth * s;
            boolean dead = s >= world.men[o].bears;
            int back = Math.min(s, world.men[o].strength);
            if (!dead) {
                gain -= fear * back;
            }
            if (!dead && world.men[k].bears <= back) {
                gain -= 1000;
            }
            if (gain > most) {
                most = gain;
                best = s;
            }
        }
        return what == 0 ? best : most + 10000;
    }

    int settled() {
        int[] owes = new int[6];
        for (Owed one : world.owed) {
            owes[one.striker] += one.much;
            owes[one.struck] -= one.much;
        }
        return payments(owes, 0);
    }

    private static int payments(int[] owes, int from) {
        int first = from;
        while (first < 6 && owes[first] == 0) {
            first++;
        }
        if (first == 6) {
            return 0;
        }
        int fewest = 99;
        for (int other = first + 1; other < 6; other++) {
            if ((long) owes[other] * owes[first] < 0) {
                owes[other] += owes[first];
                fewest = Math.min(fewest, 1 + payments(owes, first + 1));
                owes[other] -= owes[first];
            }
        }
        return fewest;
    }

    int ring() {
        int fewest = 99;
        for (int k = 0; k < 6; k++) {
            fewest = Math.min(fewest, ring(k, k, 1 << k, 1));
        }
        return fewest == 99 ? NONE : fewest;
    }

    private int ring(int start, int at, int used, int many) {
        int fewest = 99;
        for (Owed one : world.owed) {
            if (one.striker == at && one.struck == start) {
                fewest = Math.min(fewest, many);
            }
            if (one.striker == at && (used >> one.struck & 1) == 0) {
                fewest = Math.min(fewest, ring(start, one.struck, used | 1 << one.struck, many + 1));
            }
        }
        return fewest;
    }

    int reckoned(int d, int e, int what) {
        if (d < 0 || d > 99999 || e < 0 || e > 99 || what < 0 || what > 2) {
            return OUTSIDE;
        }
        int both = 0;
        for (int x = d; x < d + world.year; x++) {
            both += x / world.year == (x + e) / world.year ? 1 : 0;
        }
        return what == 0 ? (d + e) % world.year : what == 1 ? (d + e) / world.year : both;
    }

    private static long part(BigInteger upper, BigInteger lower, int part) {
        BigInteger common = upper.gcd(lower);
        return (part == 0 ? upper : lower).divide(common).longValueExact();
    }

    private static final BigInteger SCALE = BigInteger.TEN.pow(12);

    /** By a plan that says for each evening whether to keep back, as long as nothing was found; times SCALE. */
    private static BigInteger mean(int m, int t, int u, int plan) {
        BigInteger sum = BigInteger.ZERO;
        BigInteger unfound = SCALE;
        for (int evening = 0; evening < m; evening++) {
            BigInteger found = SCALE.subtract(unfound);
            sum = sum.add(found.multiply(BigInteger.valueOf(u)).divide(BigInteger.TEN));
            if ((plan >> evening & 1) == 0) {
                sum = sum.add(unfound.multiply(BigInteger.valueOf(u)).divide(BigInteger.TEN));
            } else {
                unfound = unfound.multiply(BigInteger.valueOf(10 - t)).divide(BigInteger.TEN);
                sum = sum.add(unfound);
            }
        }
        return sum;
    }

    private static BigInteger best(int m, int t, int u, int first) {
        BigInteger best = BigInteger.valueOf(-1);
        for (int plan = 0; plan < 1 << m; plan++) {
            if (first < 0 || (plan & 1) == first) {
                best = best.max(mean(m, t, u, plan));
            }
        }
        return best;
    }

    long kept(int m, int t, int u, int part) {
        if (m < 0 || m > 8 || t < 0 || t > 10 || u < 0 || u > 10 || part < 0 || part > 1) {
            return -1000000000000000002L;
        }
        return part(best(m, t, u, -1), SCALE, part);
    }

    int keeps(int m, int t, int u) {
        if (m < 1 || m > 8 || t < 0 || t > 10 || u < 0 || u > 10) {
            return OUTSIDE;
        }
        return best(m, t, u, 1).compareTo(best(m, t, u, 0)) > 0 ? 1 : 0;
    }

    int seen(int k, int much) {
        if (k < 0 || k > 5) {
            return UNKNOWN;
        }
        if (much < 1 || much > 20) {
            return OUTSIDE;
        }
        if (world.sights.size() == 6) {
            return FULL;
        }
        world.sights.add(new int[] {k, much});
        return world.sights.size();
    }

    int forget() {
        int before = world.sights.size();
        world.sights.clear();
        return before;
    }

    int who(int what) {
        if (what < 0 || what > 2) {
            return OUTSIDE;
        }
        List<Integer> rows = new ArrayList<>();
        rows(0, 0, rows);
        int some = 0;
        int all = rows.isEmpty() ? 0 : 63;
        for (int row : rows) {
            some |= row;
            all &= row;
        }
        return what == 0 ? rows.size() : what == 1 ? some : all;
    }

    private void rows(int sight, int used, List<Integer> rows) {
        if (sight == world.sights.size()) {
            rows.add(used);
            return;
        }
        for (int k = 0; k < 6; k++) {
            int[] one = world.sights.get(sight);
            if (world.men[k] != null && k != one[0] && world.men[k].strength >= one[1] && (used >> k & 1) == 0) {
                rows(sight + 1, used | 1 << k, rows);
            }
        }
    }

    long snow(int m, int k, int t, int part) {
        if (m < 0 || m > 6 || k < 0 || k > 10 || t < 0 || t > 10 || part < 0 || part > 1) {
            return -1000000000000000002L;
        }
        BigInteger upper = BigInteger.ZERO;
        for (int clear = 0; clear < 1 << k; clear++) {
            BigInteger chance = BigInteger.ONE;
            for (int day = 0; day < k; day++) {
                chance = chance.multiply(BigInteger.valueOf((clear >> day & 1) == 1 ? 10 - t : t));
            }
            upper = Integer.bitCount(clear) >= m ? upper.add(chance) : upper;
        }
        return part(upper, BigInteger.TEN.pow(k), part);
    }

    int year(int seed, int m, int what) {
        if (seed < 0 || seed > 9999 || m < 1 || m > 99 || what < 0 || what > 3) {
            return OUTSIDE;
        }
        World next = world.copy();
        int[] told = new int[4];
        long x = seed;
        for (int turn = 0; turn < m; turn++) {
            x = (75 * x + 74) % 65537;
            char a = (char) ('A' + x % 6);
            char b = (char) ('A' + x / 6 % 6);
            if (next.why(a + "" + b + "01") == 0) {
                next.act(a + "" + b + "01");
                told[0]++;
            } else if (next.why(a + "=") == 0) {
                next.act(a + "=");
                told[1]++;
            }
            for (int i = 0; i < x / 64 % 40; i++) {
                next.nextDay();
            }
        }
        told[2] = 10000;
        for (Man man : next.men) {
            told[2] += man == null ? 0 : man.honour;
            told[3] += man != null && man.bears == 0 ? 1 : 0;
        }
        return told[what];
    }

    int image(int n) {
        if (n != 0 && n != 1) {
            return OUTSIDE;
        }
        images[n] = world.copy();
        return 1;
    }

    int restore(int n) {
        if (n != 0 && n != 1) {
            return OUTSIDE;
        }
        if (images[n] == null) {
            return STATE;
        }
        world = images[n].copy();
        return 1;
    }

    int told(int what) {
        int bits = 0;
        for (int k = 0; k < 6; k++) {
            bits += world.men[k] == null ? 0 : 1 << k;
        }
        int[] plain = {pad.length(), world.chapels, bits, world.day, world.year, world.sights.size()};
        if (what >= 0 && what < 6) {
            return plain[what];
        }
        for (int k = 0; k < 6; k++) {
            if (world.men[k] != null && what == 10 * (1 + k)) {
                return world.men[k].strength;
            }
            if (world.men[k] != null && what == 10 * (1 + k) + 1) {
                return world.men[k].own;
            }
        }
        for (int c = 0; c < world.chapels; c++) {
            for (int o = 0; o < world.chapels; o++) {
                if (c != o && what == 100 * (1 + c) + o) {
                    return world.roads[c][o];
                }
            }
        }
        return OUTSIDE;
    }
}
