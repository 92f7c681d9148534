import java.util.Arrays;

/** Blows that are owed, to be given back in a year and a day; see README.md. */
public final class BlowOwed {
    public static final int NONE = -6, UNKNOWN = -1, OUTSIDE = -2, STATE = -3, FULL = -4, NO = -5;
    public static final long LOST = -1000000000000000000L;

    private static final int KNIGHTS = 6;
    private static final int KNIGHT_SETS = 64;
    private static final int LEAST_CHAPELS = 2;
    private static final int MOST_CHAPELS = 5;
    private static final int MOST_DEBTS = 12;
    private static final int MOST_SIGHTS = 6;
    private static final int MOST_SIGNS = 60;
    private static final int IMAGES = 2;
    private static final int WINTER_DAYS = 90;
    private static final int MOST_STRENGTH = 20;
    private static final int MOST_EVENINGS = 8;
    /** Added to what can be below 0, so that it is not taken for a refusal. */
    private static final int LIFT = 10000;
    /** Later than any day that a run of calls can come to. */
    private static final int FAR = 1000000000;

    /** Why an act can not be; POSSIBLE: it can. */
    private static final int POSSIBLE = 0;
    private static final int NOBODY = 1;
    private static final int ON_ROAD = 2;
    private static final int APART = 3;
    private static final int TOO_HARD = 4;
    private static final int NO_ROAD = 5;
    private static final int NOT_DUE = 6;
    private static final int TOO_MANY = 7;

    private final Pad pad = new Pad();
    private final Court court = new Court();
    /** null: that one was not kept. */
    private final Court[] images = new Court[IMAGES];
    private final Trial judged = new Trial();
    private final Journeys journeys = new Journeys();
    private final Ledger ledger = new Ledger();
    private final Scars scars = new Scars();

    public BlowOwed() {
    }

    // ---- 1 chapels, knights, courts

    public int chapels(int n) {
        if (!isWithin(n, LEAST_CHAPELS, MOST_CHAPELS)) {
            return OUTSIDE;
        }
        int before = court.land.chapels;
        court.beginAnew(n);
        return before;
    }

    public int road(int chapel, int other, int days) {
        if (!court.land.hasChapel(chapel) || !court.land.hasChapel(other) || chapel == other) {
            return UNKNOWN;
        }
        if (!isWithin(days, 0, 99)) {
            return OUTSIDE;
        }
        int before = court.land.roadDays(chapel, other);
        court.land.layRoad(chapel, other, days);
        return before;
    }

    public int yearOf(int days) {
        if (!isWithin(days, 10, 400)) {
            return OUTSIDE;
        }
        if (court.debts.count > 0) {
            return STATE;
        }
        int before = court.land.yearDays;
        court.land.yearDays = days;
        return before;
    }

    public int knight(int knight, int chapel, int strength, int bears, int honour) {
        if (!isWithin(knight, 0, KNIGHTS - 1) || !court.land.hasChapel(chapel)) {
            return UNKNOWN;
        }
        if (!isWithin(strength, 1, MOST_STRENGTH) || !isWithin(bears, 1, 99) || !isWithin(honour, 0, 99)) {
            return OUTSIDE;
        }
        Knight comer = court.knightAt(knight);
        if (comer.isThere) {
            return STATE;
        }
        comer.come(chapel, strength, bears, honour);
        return court.countKnights();
    }

    public int heir(int knight, int heir) {
        if (!court.knightAt(knight).isThere || !court.knightAt(heir).isAlive() || knight == heir) {
            return UNKNOWN;
        }
        court.knightAt(knight).leave();
        court.debts.inherit(knight, heir);
        return court.countKnights();
    }

    public int say(int sign) {
        if (!isWithin(sign, 33, 126)) {
            return OUTSIDE;
        }
        if (pad.count >= MOST_SIGNS) {
            return FULL;
        }
        pad.add(sign);
        return pad.count;
    }

    public int wipe() {
        int before = pad.count;
        pad.count = 0;
        return before;
    }

    public int fault() {
        return pad.findFault(court.land.chapels);
    }

    // ---- 2 courts, debts

    public int judge(int what) {
        if (!isWithin(what, 0, 1)) {
            return OUTSIDE;
        }
        if (fault() != NONE) {
            return NO;
        }
        if (judged.hear(pad, court)) {
            return NONE;
        }
        return what == 0 ? judged.acts : judged.why;
    }

    public int done() {
        if (fault() != NONE || !judged.hear(pad, court)) {
            return NO;
        }
        court.copy(judged.after);
        pad.count = 0;
        return judged.acts;
    }

    public int state(int knight, int what) {
        if (!court.knightAt(knight).isThere) {
            return UNKNOWN;
        }
        return isWithin(what, 0, 3) ? court.knightAt(knight).tell(what) : OUTSIDE;
    }

    public int behind(int knight, int what) {
        if (!court.knightAt(knight).isThere) {
            return UNKNOWN;
        }
        if (!isWithin(what, 0, 3)) {
            return OUTSIDE;
        }
        if (fault() != NONE || !judged.hear(pad, court)) {
            return NO;
        }
        return judged.after.knightAt(knight).tell(what);
    }

    public int debt(int i, int what) {
        if (!isWithin(what, 0, 3)) {
            return OUTSIDE;
        }
        if (i == -1) {
            return court.debts.count;
        }
        return court.debts.has(i) ? court.debts.rows[i].tell(what) : NONE;
    }

    public int when(int knight, int chapel) {
        if (!court.knightAt(knight).isAlive() || !court.land.hasChapel(chapel)) {
            return UNKNOWN;
        }
        int first = journeys.firstDay(court, knight, chapel);
        return first < FAR ? first : NONE;
    }

    public int inTime(int knight) {
        if (!court.knightAt(knight).isAlive()) {
            return UNKNOWN;
        }
        return journeys.metAlone(court, knight);
    }

    // ---- 3 rounds, blows, rings

    public int round(int knight, int what) {
        if (!court.knightAt(knight).isAlive()) {
            return UNKNOWN;
        }
        switch (what) {
            case 0:
                return journeys.mostMet(court, knight) == court.debts.countOwedBy(knight) ? 1 : 0;
            case 1:
                return journeys.mostMet(court, knight);
            case 2:
                return journeys.findBarred(court, knight);
            default:
                return OUTSIDE;
        }
    }

    public int hard(int knight, int other, int worth, int fear, int what) {
        Knight striker = court.knightAt(knight);
        Knight struck = court.knightAt(other);
        if (!striker.isAlive() || !struck.isAlive() || knight == other) {
            return UNKNOWN;
        }
        if (!isWithin(worth, 0, 20) || !isWithin(fear, 0, 20) || !isWithin(what, 0, 1)) {
            return OUTSIDE;
        }
        int best = bestBlow(striker, struck, worth, fear);
        return what == 0 ? best : gainOf(best, striker, struck, worth, fear) + LIFT;
    }

    public int settled() {
        return ledger.fewestPayments(court.debts);
    }

    public int ring() {
        return ledger.shortestRing(court.debts);
    }

    // ---- 4 reckonings, hosts, scars, snow

    public int reckoned(int d, int e, int what) {
        if (!isWithin(d, 0, 99999) || !isWithin(e, 0, 99)) {
            return OUTSIDE;
        }
        int yearDays = court.land.yearDays;
        switch (what) {
            case 0:
                return leftOver(d + e, yearDays);
            case 1:
                return cut(d + e, yearDays);
            case 2:
                // YEAR days on end have each day of the year once, and the last e of a year are the other's next year.
                return Math.max(0, yearDays - e);
            default:
                return OUTSIDE;
        }
    }

    public long kept(int m, int t, int u, int part) {
        if (!isWithin(m, 0, MOST_EVENINGS) || !areTenths(t) || !areTenths(u) || !isWithin(part, 0, 1)) {
            return LOST + OUTSIDE;
        }
        return partOf(mostKept(m, t, u), tenTo(m), part);
    }

    public int keeps(int m, int t, int u) {
        if (!isWithin(m, 1, MOST_EVENINGS) || !areTenths(t) || !areTenths(u)) {
            return OUTSIDE;
        }
        long rest = mostKept(m - 1, t, u);
        return keptBack(m, t, u, rest) > exchanged(m, u, rest) ? 1 : 0;
    }

    public int seen(int knight, int much) {
        if (!isWithin(knight, 0, KNIGHTS - 1)) {
            return UNKNOWN;
        }
        if (!isWithin(much, 1, MOST_STRENGTH)) {
            return OUTSIDE;
        }
        if (court.sights.count >= MOST_SIGHTS) {
            return FULL;
        }
        court.sights.add(knight, much);
        return court.sights.count;
    }

    public int forget() {
        int before = court.sights.count;
        court.sights.count = 0;
        return before;
    }

    public int who(int what) {
        if (!isWithin(what, 0, 2)) {
            return OUTSIDE;
        }
        scars.fit(court);
        if (what == 0) {
            return scars.rows;
        }
        return what == 1 ? scars.inSome : scars.inAll;
    }

    public long snow(int m, int k, int t, int part) {
        if (!isWithin(m, 0, 6) || !isWithin(k, 0, 10) || !areTenths(t) || !isWithin(part, 0, 1)) {
            return LOST + OUTSIDE;
        }
        return partOf(goneInTime(m, k, t), tenTo(k), part);
    }

    public int year(int seed, int m, int what) {
        if (!isWithin(seed, 0, 9999) || !isWithin(m, 1, 99) || !isWithin(what, 0, 3)) {
            return OUTSIDE;
        }
        judged.draw(court, seed, m);
        switch (what) {
            case 0:
                return judged.blows;
            case 1:
                return judged.givenBack;
            case 2:
                return judged.after.sumHonour() + LIFT;
            default:
                return judged.after.countDead();
        }
    }

    public int image(int n) {
        if (!isWithin(n, 0, IMAGES - 1)) {
            return OUTSIDE;
        }
        if (images[n] == null) {
            images[n] = new Court();
        }
        images[n].copy(court);
        return 1;
    }

    public int restore(int n) {
        if (!isWithin(n, 0, IMAGES - 1)) {
            return OUTSIDE;
        }
        if (images[n] == null) {
            return STATE;
        }
        court.copy(images[n]);
        return 1;
    }

    public int told(int what) {
        switch (what) {
            case 0:
                return pad.count;
            case 1:
                return court.land.chapels;
            case 2:
                return court.knightBits();
            case 3:
                return court.day;
            case 4:
                return court.land.yearDays;
            case 5:
                return court.sights.count;
            default:
                return what < 100 ? toldOfKnight(what) : toldOfRoad(what);
        }
    }

    // ---- what the calls share

    private int toldOfKnight(int what) {
        Knight knight = court.knightAt(what / 10 - 1);
        int asked = what % 10;
        if (!knight.isThere || !isWithin(asked, 0, 1)) {
            return OUTSIDE;
        }
        return asked == 0 ? knight.strength : knight.own;
    }

    private int toldOfRoad(int what) {
        int chapel = what / 100 - 1;
        int other = what % 100;
        if (!court.land.hasChapel(chapel) || !court.land.hasChapel(other) || chapel == other) {
            return OUTSIDE;
        }
        return court.land.roadDays(chapel, other);
    }

    private static int bestBlow(Knight striker, Knight struck, int worth, int fear) {
        int best = 0;
        for (int much = 1; much <= MOST_STRENGTH && much <= striker.strength; much++) {
            if (gainOf(much, striker, struck, worth, fear) > gainOf(best, striker, struck, worth, fear)) {
                best = much;
            }
        }
        return best;
    }

    private static int gainOf(int much, Knight striker, Knight struck, int worth, int fear) {
        int gain = worth * much;
        if (much >= struck.bears) {
            return gain;
        }
        int back = Math.min(much, struck.strength);
        int death = striker.bears <= back ? 1000 : 0;
        return gain - fear * back - death;
    }

    /** The mean of what one has by so many evenings, times ten to their number. */
    private static long mostKept(int evenings, int t, int u) {
        long most = 0;
        for (int left = 1; left <= evenings; left++) {
            most = Math.max(exchanged(left, u, most), keptBack(left, t, u, most));
        }
        return most;
    }

    /** The first of the evenings that are left; rest: what the others bring, likewise. */
    private static long exchanged(int left, int u, long rest) {
        return u * tenTo(left - 1) + 10 * rest;
    }

    private static long keptBack(int left, int t, int u, long rest) {
        // What is found leaves u tenths of each other evening; on the last one that is nothing, so no tenth is lost.
        long ifFound = (left - 1) * u * tenTo(left - 1) / 10;
        long ifNot = tenTo(left - 1) + rest;
        return t * ifFound + (10 - t) * ifNot;
    }

    /** In how many of ten to the k cases m or more of k days are not snowed in. */
    private static long goneInTime(int m, int k, int t) {
        long cases = 0;
        long choices = 1;
        for (int clear = 0; clear <= k; clear++) {
            if (clear >= m) {
                cases += choices * power(10 - t, clear) * power(t, k - clear);
            }
            choices = choices * (k - clear) / (clear + 1);
        }
        return cases;
    }

    private static long power(int base, int times) {
        long product = 1;
        for (int i = 0; i < times; i++) {
            product *= base;
        }
        return product;
    }

    private static long tenTo(int times) {
        return power(10, times);
    }

    private static long partOf(long upper, long lower, int part) {
        long common = commonDivisor(upper, lower);
        if (common < 1) {
            return part == 0 ? upper : lower;
        }
        return part == 0 ? upper / common : lower / common;
    }

    private static long commonDivisor(long one, long other) {
        long a = one;
        long b = other;
        // Each two steps halve the lesser number at least, so 200 are more than a long can need.
        for (int step = 0; step < 200 && b != 0; step++) {
            long rest = a % b;
            a = b;
            b = rest;
        }
        return a;
    }

    private static boolean areTenths(int number) {
        return isWithin(number, 0, 10);
    }

    private static boolean isWithin(int number, int least, int most) {
        return number >= least && number <= most;
    }

    private static int leftOver(int number, int by) {
        return by > 0 ? number % by : 0;
    }

    private static int cut(int number, int by) {
        return by > 0 ? number / by : 0;
    }

    /** Chapels, the roads between them, the year and its winter. */
    private static final class Land {
        private int chapels = 4;
        private int yearDays = 360;
        private final int[] roads = new int[MOST_CHAPELS * MOST_CHAPELS];

        private void copy(Land from) {
            chapels = from.chapels;
            yearDays = from.yearDays;
            System.arraycopy(from.roads, 0, roads, 0, roads.length);
        }

        private boolean hasChapel(int chapel) {
            return chapel >= 0 && chapel < chapels && chapel < MOST_CHAPELS;
        }

        private int roadDays(int from, int to) {
            int cell = from * MOST_CHAPELS + to;
            return cell >= 0 && cell < roads.length ? roads[cell] : 0;
        }

        private void layRoad(int one, int other, int days) {
            if (hasChapel(one) && hasChapel(other)) {
                roads[one * MOST_CHAPELS + other] = days;
                roads[other * MOST_CHAPELS + one] = days;
            }
        }

        private boolean isWinter(int day) {
            return leftOver(day, yearDays) < WINTER_DAYS;
        }

        private int daysUnderWay(int from, int to, int day) {
            int days = roadDays(from, to);
            return isWinter(day) ? 2 * days : days;
        }

        /** The first day at a road's other end for one who may wait: only the winter's end is worth it. */
        private int firstAcross(int from, int to, int day) {
            int days = roadDays(from, to);
            if (days == 0) {
                return FAR;
            }
            int inYear = leftOver(day, yearDays);
            if (inYear >= WINTER_DAYS) {
                return day + days;
            }
            int atOnce = day + 2 * days;
            int winterEnd = day - inYear + WINTER_DAYS;
            return yearDays > WINTER_DAYS ? Math.min(atOnce, winterEnd + days) : atOnce;
        }

        /** The first day in each chapel; who comes sooner never goes on later, so that the first is best. */
        private void fillFirstDays(int start, int day, int[] first) {
            Arrays.fill(first, FAR);
            if (!hasChapel(start) || first.length < MOST_CHAPELS) {
                return;
            }
            first[start] = day;
            for (int pass = 1; pass < chapels; pass++) {
                for (int from = 0; from < chapels && from < MOST_CHAPELS; from++) {
                    for (int to = 0; to < chapels && to < MOST_CHAPELS && first[from] < FAR; to++) {
                        first[to] = Math.min(first[to], firstAcross(from, to, first[from]));
                    }
                }
            }
        }
    }

    private static final class Knight {
        private boolean isThere;
        private int own;
        private int strength;
        private int bears;
        private int honour;
        /** Where he is, or where his road leads. */
        private int place;
        /** Days that he is still on a road; 0: he is there. */
        private int toGo;

        private void come(int chapel, int ofStrength, int canBear, int ofHonour) {
            isThere = true;
            own = chapel;
            strength = ofStrength;
            bears = canBear;
            honour = ofHonour;
            place = chapel;
            toGo = 0;
        }

        private void leave() {
            isThere = false;
        }

        private void copy(Knight from) {
            isThere = from.isThere;
            own = from.own;
            strength = from.strength;
            bears = from.bears;
            honour = from.honour;
            place = from.place;
            toGo = from.toGo;
        }

        private boolean isAlive() {
            return isThere && bears > 0;
        }

        private boolean isDead() {
            return isThere && bears == 0;
        }

        private boolean isIn(int chapel) {
            return toGo == 0 && place == chapel;
        }

        private int tell(int what) {
            switch (what) {
                case 0:
                    return toGo > 0 ? NONE : place;
                case 1:
                    return bears;
                case 2:
                    return honour + LIFT;
                default:
                    return isDead() ? 1 : 0;
            }
        }
    }

    /** The striker owes it to the struck one to be struck by so much on that day. */
    private static final class Debt {
        private int striker;
        private int struck;
        private int much;
        private int day;
        /** No more, until it is swept away at its act's end. */
        private boolean isGone;

        private void set(int ofStriker, int toStruck, int soMuch, int onDay) {
            striker = ofStriker;
            struck = toStruck;
            much = soMuch;
            day = onDay;
            isGone = false;
        }

        private int tell(int what) {
            switch (what) {
                case 0:
                    return striker;
                case 1:
                    return struck;
                case 2:
                    return much;
                default:
                    return day;
            }
        }
    }

    /** In the order in which they came, which is the order of their days too: no year changes while there are any. */
    private static final class Debts {
        private int count;
        private final Debt[] rows = new Debt[MOST_DEBTS];

        private Debts() {
            for (int i = 0; i < MOST_DEBTS; i++) {
                rows[i] = new Debt();
            }
        }

        private void copy(Debts from) {
            count = from.count;
            for (int i = 0; i < MOST_DEBTS && i < count; i++) {
                Debt debt = from.rows[i];
                rows[i].set(debt.striker, debt.struck, debt.much, debt.day);
            }
        }

        private boolean has(int i) {
            return i >= 0 && i < count && i < MOST_DEBTS;
        }

        private void add(int striker, int struck, int much, int day) {
            if (count < MOST_DEBTS) {
                rows[count].set(striker, struck, much, day);
                count++;
            }
        }

        private void endAllOf(int knight) {
            for (int i = 0; i < MOST_DEBTS && i < count; i++) {
                if (rows[i].striker == knight || rows[i].struck == knight) {
                    rows[i].isGone = true;
                }
            }
        }

        private void inherit(int knight, int heir) {
            for (int i = 0; i < MOST_DEBTS && i < count; i++) {
                Debt debt = rows[i];
                if (debt.striker == knight || debt.struck == knight) {
                    debt.striker = debt.striker == knight ? heir : debt.striker;
                    debt.struck = debt.struck == knight ? heir : debt.struck;
                    debt.much = debt.much / 2;
                    debt.isGone = debt.much == 0 || debt.striker == debt.struck;
                }
            }
            sweep();
        }

        /** Those that stay keep their order. */
        private void sweep() {
            int stay = 0;
            for (int i = 0; i < MOST_DEBTS && i < count; i++) {
                Debt debt = rows[i];
                if (!debt.isGone) {
                    rows[i] = rows[stay];
                    rows[stay] = debt;
                    stay++;
                }
            }
            count = stay;
        }

        /** The oldest that is owed to him on that day; NONE. */
        private int findDueTo(int knight, int day) {
            for (int i = 0; i < MOST_DEBTS && i < count; i++) {
                if (rows[i].struck == knight && rows[i].day == day && !rows[i].isGone) {
                    return i;
                }
            }
            return NONE;
        }

        private int countOwedBy(int knight) {
            int owed = 0;
            for (int i = 0; i < MOST_DEBTS && i < count; i++) {
                owed += rows[i].striker == knight ? 1 : 0;
            }
            return owed;
        }
    }

    /** Who was struck, and by how much. */
    private static final class Sights {
        private int count;
        private final int[] struck = new int[MOST_SIGHTS];
        private final int[] much = new int[MOST_SIGHTS];

        private void copy(Sights from) {
            count = from.count;
            System.arraycopy(from.struck, 0, struck, 0, MOST_SIGHTS);
            System.arraycopy(from.much, 0, much, 0, MOST_SIGHTS);
        }

        private void add(int knight, int soMuch) {
            if (count < MOST_SIGHTS) {
                struck[count] = knight;
                much[count] = soMuch;
                count++;
            }
        }
    }

    /** All but the pad: what an image keeps, and what acts change. */
    private static final class Court {
        private final Land land = new Land();
        private final Knight[] knights = new Knight[KNIGHTS];
        private final Debts debts = new Debts();
        private final Sights sights = new Sights();
        /** Stands for every number that no knight has, and is never there. */
        private final Knight nobody = new Knight();
        private int day;

        private Court() {
            for (int knight = 0; knight < KNIGHTS; knight++) {
                knights[knight] = new Knight();
            }
        }

        private void copy(Court from) {
            land.copy(from.land);
            for (int knight = 0; knight < KNIGHTS; knight++) {
                knights[knight].copy(from.knights[knight]);
            }
            debts.copy(from.debts);
            sights.copy(from.sights);
            day = from.day;
        }

        private void beginAnew(int chapels) {
            land.chapels = chapels;
            Arrays.fill(land.roads, 0);
            for (int knight = 0; knight < KNIGHTS; knight++) {
                knights[knight].leave();
            }
            debts.count = 0;
            sights.count = 0;
            day = 0;
        }

        private Knight knightAt(int knight) {
            return knight >= 0 && knight < KNIGHTS ? knights[knight] : nobody;
        }

        private int knightBits() {
            int bits = 0;
            for (int knight = 0; knight < KNIGHTS; knight++) {
                bits |= knights[knight].isThere ? 1 << knight : 0;
            }
            return bits;
        }

        private int countKnights() {
            return Integer.bitCount(knightBits());
        }

        private int countDead() {
            int dead = 0;
            for (int knight = 0; knight < KNIGHTS; knight++) {
                dead += knights[knight].isDead() ? 1 : 0;
            }
            return dead;
        }

        private int sumHonour() {
            int sum = 0;
            for (int knight = 0; knight < KNIGHTS; knight++) {
                sum += knights[knight].isThere ? knights[knight].honour : 0;
            }
            return sum;
        }

        /** Each try answers why the act can not be; if it can, it is done. */
        private int tryStrike(int striker, int struck, int much) {
            Knight one = knightAt(striker);
            Knight other = knightAt(struck);
            if (!one.isAlive() || !other.isAlive() || striker == struck) {
                return NOBODY;
            }
            if (one.toGo > 0 || other.toGo > 0) {
                return ON_ROAD;
            }
            if (one.place != other.place) {
                return APART;
            }
            if (much > one.strength) {
                return TOO_HARD;
            }
            if (debts.count >= MOST_DEBTS) {
                return TOO_MANY;
            }
            wound(struck, much);
            debts.sweep();
            if (other.isAlive()) {
                debts.add(striker, struck, much, day + land.yearDays + 1);
            }
            return POSSIBLE;
        }

        private int trySetOut(int knight, int chapel) {
            int why = whyNotActing(knight);
            if (why != POSSIBLE) {
                return why;
            }
            Knight goer = knightAt(knight);
            int days = land.daysUnderWay(goer.place, chapel, day);
            if (days == 0) {
                return NO_ROAD;
            }
            goer.place = chapel;
            goer.toGo = days;
            return POSSIBLE;
        }

        private int tryGiveBack(int knight) {
            int why = whyNotActing(knight);
            if (why != POSSIBLE) {
                return why;
            }
            Knight giver = knightAt(knight);
            int due = debts.findDueTo(knight, day);
            if (!giver.isIn(giver.own) || due == NONE) {
                return NOT_DUE;
            }
            // Looked for anew each time: a blow that kills ends other debts too.
            for (int given = 0; given < MOST_DEBTS && due != NONE; given++) {
                giveBackOne(giver, due);
                due = debts.findDueTo(knight, day);
            }
            debts.sweep();
            return POSSIBLE;
        }

        private void giveBackOne(Knight giver, int due) {
            if (!debts.has(due)) {
                return;
            }
            Debt debt = debts.rows[due];
            debt.isGone = true;
            Knight met = knightAt(debt.striker);
            if (met.isIn(giver.own)) {
                met.honour += 1;
                giver.honour += 3;
                wound(debt.striker, Math.min(debt.much, giver.strength));
            } else {
                met.honour -= 5;
            }
        }

        private int tryFlinch(int knight) {
            int why = whyNotActing(knight);
            if (why != POSSIBLE) {
                return why;
            }
            Knight flincher = knightAt(knight);
            boolean isDue = false;
            for (int i = 0; i < MOST_DEBTS && i < debts.count; i++) {
                Debt debt = debts.rows[i];
                if (debt.striker == knight && debt.day == day && flincher.isIn(knightAt(debt.struck).own)) {
                    debt.much = debt.much / 2;
                    isDue = true;
                }
            }
            if (!isDue) {
                return NOT_DUE;
            }
            flincher.honour -= 2;
            return POSSIBLE;
        }

        private int tryRemit(int knight) {
            int why = whyNotActing(knight);
            if (why != POSSIBLE) {
                return why;
            }
            int before = debts.count;
            for (int i = 0; i < MOST_DEBTS && i < debts.count; i++) {
                debts.rows[i].isGone = debts.rows[i].struck == knight;
            }
            debts.sweep();
            int remitted = before - debts.count;
            knightAt(knight).honour += remitted;
            return remitted > 0 ? POSSIBLE : NOT_DUE;
        }

        private int whyNotActing(int knight) {
            if (!knightAt(knight).isAlive()) {
                return NOBODY;
            }
            return knightAt(knight).toGo > 0 ? ON_ROAD : POSSIBLE;
        }

        private void wound(int knight, int much) {
            Knight struck = knightAt(knight);
            struck.bears = Math.max(0, struck.bears - much);
            if (struck.isDead()) {
                debts.endAllOf(knight);
            }
        }

        /** All at once: what ends on one of the days does not depend on what ends on another. */
        private void passDays(int days) {
            for (int i = 0; i < MOST_DEBTS && i < debts.count; i++) {
                Debt debt = debts.rows[i];
                if (debt.day >= day && debt.day < day + days) {
                    debt.isGone = true;
                    knightAt(debt.struck).honour -= 4;
                }
            }
            debts.sweep();
            for (int knight = 0; knight < KNIGHTS; knight++) {
                knights[knight].toGo = Math.max(0, knights[knight].toGo - days);
            }
            day += days;
        }
    }

    /** The text of a court. */
    private static final class Pad {
        private int count;
        private final int[] signs = new int[MOST_SIGNS];

        private void add(int sign) {
            if (count < MOST_SIGNS) {
                signs[count] = sign;
                count++;
            }
        }

        /** 0 behind the last sign, which can stand nowhere. */
        private int signAt(int place) {
            return place >= 0 && place < count && place < MOST_SIGNS ? signs[place] : 0;
        }

        private int numberAt(int place) {
            return 10 * (signAt(place) - '0') + signAt(place + 1) - '0';
        }

        private int findFault(int chapels) {
            int place = 0;
            for (int acts = 0; acts < MOST_SIGNS && place < count; acts++) {
                int good = countGood(place, chapels);
                int needed = signsOfAct(place);
                if (good < needed) {
                    return place + good;
                }
                place += needed;
            }
            return NONE;
        }

        private int signsOfAct(int place) {
            if (!isLetter(signAt(place))) {
                return 1;
            }
            return isLetter(signAt(place + 1)) ? 4 : 2;
        }

        /** How many signs of the act that begins there can stand, up to the first that can not. */
        private int countGood(int place, int chapels) {
            if (daysOf(signAt(place)) > 0) {
                return 1;
            }
            if (!isLetter(signAt(place))) {
                return 0;
            }
            int second = signAt(place + 1);
            if (isLetter(second)) {
                return 2 + countGoodDigits(place + 2);
            }
            boolean isChapel = second >= '0' && second < '0' + chapels;
            return isChapel || second == '=' || second == '!' || second == '/' ? 2 : 1;
        }

        private int countGoodDigits(int place) {
            if (!isWithin(signAt(place), '0', '2')) {
                return 0;
            }
            boolean isDigit = isWithin(signAt(place + 1), '0', '9');
            return isDigit && isWithin(numberAt(place), 1, MOST_STRENGTH) ? 2 : 1;
        }

        private static boolean isLetter(int sign) {
            return sign >= 'A' && sign < 'A' + KNIGHTS;
        }

        private static int daysOf(int sign) {
            switch (sign) {
                case '.':
                    return 1;
                case ':':
                    return 10;
                case ';':
                    return 100;
                default:
                    return 0;
            }
        }
    }

    /** Acts that are tried, and are not, or not yet, done in fact. */
    private static final class Trial {
        /** As all is behind the acts that could be. */
        private final Court after = new Court();
        private int acts;
        private int why;
        private int blows;
        private int givenBack;

        /** Whether all acts on the pad can be; else why says why the one behind those that can be can not. */
        private boolean hear(Pad pad, Court court) {
            after.copy(court);
            acts = 0;
            why = POSSIBLE;
            int place = 0;
            for (int turn = 0; turn < MOST_SIGNS && place < pad.count; turn++) {
                why = tryAct(pad, place);
                if (why != POSSIBLE) {
                    return false;
                }
                acts++;
                place += pad.signsOfAct(place);
            }
            return true;
        }

        private int tryAct(Pad pad, int place) {
            int days = Pad.daysOf(pad.signAt(place));
            if (days > 0) {
                after.passDays(days);
                return POSSIBLE;
            }
            int knight = pad.signAt(place) - 'A';
            int second = pad.signAt(place + 1);
            if (Pad.isLetter(second)) {
                return after.tryStrike(knight, second - 'A', pad.numberAt(place + 2));
            }
            switch (second) {
                case '=':
                    return after.tryGiveBack(knight);
                case '!':
                    return after.tryFlinch(knight);
                case '/':
                    return after.tryRemit(knight);
                default:
                    return after.trySetOut(knight, second - '0');
            }
        }

        private void draw(Court court, int seed, int turns) {
            after.copy(court);
            blows = 0;
            givenBack = 0;
            int x = seed;
            for (int turn = 0; turn < turns; turn++) {
                x = (75 * x + 74) % 65537;
                int knight = x % KNIGHTS;
                if (after.tryStrike(knight, x / 6 % KNIGHTS, 1) == POSSIBLE) {
                    blows++;
                } else if (after.tryGiveBack(knight) == POSSIBLE) {
                    givenBack++;
                }
                after.passDays(x / 64 % 40);
            }
        }
    }

    /** Who can still be where in time. */
    private static final class Journeys {
        /** The first day in each chapel: from where he is, and from a debt that he has been at. */
        private final int[] first = new int[MOST_CHAPELS];
        private final int[] onward = new int[MOST_CHAPELS];
        /** The most debts of a round that ends with this one; 0: none does. */
        private final int[] most = new int[MOST_DEBTS];

        private int firstDay(Court court, int knight, int chapel) {
            setOff(court, knight);
            return dayAt(first, chapel);
        }

        private int metAlone(Court court, int knight) {
            setOff(court, knight);
            int bits = 0;
            for (int i = 0; i < MOST_DEBTS && i < court.debts.count; i++) {
                bits |= isMet(court, knight, i, first) ? 1 << i : 0;
            }
            return bits;
        }

        private int mostMet(Court court, int knight) {
            int alone = metAlone(court, knight);
            for (int i = 0; i < MOST_DEBTS; i++) {
                most[i] = alone >> i & 1;
            }
            int best = 0;
            for (int i = 0; i < MOST_DEBTS; i++) {
                if (most[i] > 0) {
                    best = Math.max(best, most[i]);
                    lengthen(court, knight, i);
                }
            }
            return best;
        }

        private void lengthen(Court court, int knight, int last) {
            goOnFrom(court, last);
            for (int i = last + 1; i < MOST_DEBTS; i++) {
                if (isMet(court, knight, i, onward)) {
                    most[i] = Math.max(most[i], most[last] + 1);
                }
            }
        }

        private int findBarred(Court court, int knight) {
            int alone = metAlone(court, knight);
            for (int i = 0; i < MOST_DEBTS; i++) {
                if ((alone >> i & 1) == 0) {
                    continue;
                }
                goOnFrom(court, i);
                for (int j = i + 1; j < MOST_DEBTS; j++) {
                    if ((alone >> j & 1) == 1 && !isMet(court, knight, j, onward)) {
                        return 100 * i + j;
                    }
                }
            }
            return NONE;
        }

        private void setOff(Court court, int knight) {
            Knight goer = court.knightAt(knight);
            court.land.fillFirstDays(goer.place, court.day + goer.toGo, first);
        }

        private void goOnFrom(Court court, int i) {
            if (court.debts.has(i)) {
                Debt debt = court.debts.rows[i];
                court.land.fillFirstDays(court.knightAt(debt.struck).own, debt.day, onward);
            }
        }

        private static boolean isMet(Court court, int knight, int i, int[] firstDays) {
            if (!court.debts.has(i)) {
                return false;
            }
            Debt debt = court.debts.rows[i];
            return debt.striker == knight && dayAt(firstDays, court.knightAt(debt.struck).own) <= debt.day;
        }

        private static int dayAt(int[] firstDays, int chapel) {
            return chapel >= 0 && chapel < firstDays.length ? firstDays[chapel] : FAR;
        }
    }

    /** Debts as sums: who must pay, and who stands in a ring. */
    private static final class Ledger {
        private final int[] groups = new int[KNIGHT_SETS];
        private final int[] owes = new int[KNIGHTS];

        /** Knights who are quit among themselves need one payment less than they are: the more such groups, the better. */
        private int fewestPayments(Debts debts) {
            groups[0] = 0;
            for (int set = 1; set < KNIGHT_SETS; set++) {
                int most = 0;
                for (int knight = 0; knight < KNIGHTS; knight++) {
                    if ((set >> knight & 1) == 1) {
                        most = Math.max(most, groups[set & ~(1 << knight)]);
                    }
                }
                groups[set] = most + (sumOf(set, debts) == 0 ? 1 : 0);
            }
            return KNIGHTS - groups[KNIGHT_SETS - 1];
        }

        private int sumOf(int set, Debts debts) {
            int sum = 0;
            for (int i = 0; i < MOST_DEBTS && i < debts.count; i++) {
                Debt debt = debts.rows[i];
                sum += (set >> debt.striker & 1) * debt.much;
                sum -= (set >> debt.struck & 1) * debt.much;
            }
            return sum;
        }

        private int shortestRing(Debts debts) {
            Arrays.fill(owes, 0);
            for (int i = 0; i < MOST_DEBTS && i < debts.count; i++) {
                if (isWithin(debts.rows[i].striker, 0, KNIGHTS - 1)) {
                    owes[debts.rows[i].striker] |= 1 << debts.rows[i].struck;
                }
            }
            int shortest = KNIGHTS + 1;
            for (int knight = 0; knight < KNIGHTS; knight++) {
                shortest = Math.min(shortest, ringThrough(knight));
            }
            return shortest <= KNIGHTS ? shortest : NONE;
        }

        private int ringThrough(int knight) {
            int reached = 1 << knight;
            for (int steps = 1; steps <= KNIGHTS; steps++) {
                reached = nextOf(reached);
                if ((reached >> knight & 1) == 1) {
                    return steps;
                }
            }
            return KNIGHTS + 1;
        }

        private int nextOf(int set) {
            int next = 0;
            for (int knight = 0; knight < KNIGHTS; knight++) {
                next |= (set >> knight & 1) == 1 ? owes[knight] : 0;
            }
            return next;
        }
    }

    /** Who struck whom, by the sights: rows are counted by the set of strikers that is in them. */
    private static final class Scars {
        private final int[] ways = new int[KNIGHT_SETS];
        private int rows;
        private int inSome;
        private int inAll;

        private void fit(Court court) {
            Arrays.fill(ways, 0);
            ways[0] = 1;
            for (int set = 0; set < KNIGHT_SETS; set++) {
                if (ways[set] > 0) {
                    addStriker(court, set);
                }
            }
            rows = 0;
            inSome = 0;
            inAll = KNIGHT_SETS - 1;
            for (int set = 0; set < KNIGHT_SETS; set++) {
                if (ways[set] > 0 && Integer.bitCount(set) == court.sights.count) {
                    rows += ways[set];
                    inSome |= set;
                    inAll &= set;
                }
            }
            inAll &= inSome;
        }

        private void addStriker(Court court, int set) {
            int sight = Integer.bitCount(set);
            if (sight >= court.sights.count || sight >= MOST_SIGHTS) {
                return;
            }
            for (int knight = 0; knight < KNIGHTS; knight++) {
                Knight striker = court.knightAt(knight);
                boolean isNew = (set >> knight & 1) == 0;
                boolean isOther = knight != court.sights.struck[sight];
                if (isNew && isOther && striker.isThere && striker.strength >= court.sights.much[sight]) {
                    ways[set | 1 << knight] += ways[set];
                }
            }
        }
    }
}
