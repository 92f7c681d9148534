import java.util.function.Supplier;
import java.util.function.ToLongFunction;

/** Terms: each call that is refused leaves all as it was; and so does each that only answers. */
final class RefusedEdges {
    private static final int NONE = BlowOwed.NONE, UNKNOWN = BlowOwed.UNKNOWN, OUTSIDE = BlowOwed.OUTSIDE;
    private static final int STATE = BlowOwed.STATE, FULL = BlowOwed.FULL, NO = BlowOwed.NO;
    private static final long LOST_OUTSIDE = BlowOwed.LOST + OUTSIDE;
    private final Sentences doc;

    RefusedEdges(Sentences doc) {
        this.doc = doc;
    }

    void run() {
        doc.says("They change nothing.");
        land();
        knights();
        pad();
        courts();
        rounds();
        reckonings();
        sightsAndImages();
    }

    /** A on a road, B and C with debts, D dead, a sight; one image of another day; a court that can be. */
    private static BlowOwed rich() {
        BlowOwed x = Courts.shortYear();
        x.seen(4, 2);
        x.image(0);
        x.knight(3, 0, 2, 2, 7);
        Courts.done(x, "AC02CA03AD02..AC01A1.");
        Courts.write(x, "C/.A2");
        return x;
    }

    private static BlowOwed withPad(String text) {
        BlowOwed x = rich();
        Courts.write(x, text);
        return x;
    }

    private static BlowOwed withSixSights() {
        BlowOwed x = rich();
        for (int i = 0; i < 5; i++) {
            x.seen(i, 1);
        }
        return x;
    }

    private void same(String call, ToLongFunction<BlowOwed> refused, long want) {
        sameOf(RefusedEdges::rich, call, refused, want);
    }

    private void sameOf(Supplier<BlowOwed> maker, String call, ToLongFunction<BlowOwed> refused, long want) {
        BlowOwed x = maker.get();
        doc.due(call, refused.applyAsLong(x), want);
        String after = Picture.of(x);
        String before = Picture.of(maker.get());
        doc.due(call + " changes nothing of " + before + ", it is " + after, after.equals(before) ? 1 : 0, 1);
    }

    private void land() {
        same("chapels(1)", x -> x.chapels(1), OUTSIDE);
        same("chapels(6)", x -> x.chapels(6), OUTSIDE);
        same("road(0, 0, 5)", x -> x.road(0, 0, 5), UNKNOWN);
        same("road(0, 3, 5)", x -> x.road(0, 3, 5), UNKNOWN);
        same("road(3, 0, 5)", x -> x.road(3, 0, 5), UNKNOWN);
        same("road(0, -1, 5)", x -> x.road(0, -1, 5), UNKNOWN);
        same("road(0, 1, 100)", x -> x.road(0, 1, 100), OUTSIDE);
        same("road(0, 1, -1)", x -> x.road(0, 1, -1), OUTSIDE);
        same("yearOf(9)", x -> x.yearOf(9), OUTSIDE);
        same("yearOf(401)", x -> x.yearOf(401), OUTSIDE);
        same("yearOf(20)", x -> x.yearOf(20), STATE);
    }

    private void knights() {
        same("knight(6, 0, 1, 1, 1)", x -> x.knight(6, 0, 1, 1, 1), UNKNOWN);
        same("knight(4, 3, 1, 1, 1)", x -> x.knight(4, 3, 1, 1, 1), UNKNOWN);
        same("knight(4, 0, 21, 1, 1)", x -> x.knight(4, 0, 21, 1, 1), OUTSIDE);
        same("knight(4, 0, 1, 100, 1)", x -> x.knight(4, 0, 1, 100, 1), OUTSIDE);
        same("knight(4, 0, 1, 1, 100)", x -> x.knight(4, 0, 1, 1, 100), OUTSIDE);
        same("knight(0, 2, 1, 1, 1)", x -> x.knight(0, 2, 1, 1, 1), STATE);
        same("knight(3, 2, 1, 1, 1), a dead one", x -> x.knight(3, 2, 1, 1, 1), STATE);
        same("heir(0, 0)", x -> x.heir(0, 0), UNKNOWN);
        same("heir(4, 0)", x -> x.heir(4, 0), UNKNOWN);
        same("heir(0, 4)", x -> x.heir(0, 4), UNKNOWN);
        same("heir(0, 3), a dead one", x -> x.heir(0, 3), UNKNOWN);
        same("heir(6, 0)", x -> x.heir(6, 0), UNKNOWN);
        same("heir(0, -1)", x -> x.heir(0, -1), UNKNOWN);
        same("state(4, 0)", x -> x.state(4, 0), UNKNOWN);
        same("state(0, 4)", x -> x.state(0, 4), OUTSIDE);
    }

    private void pad() {
        same("say(32)", x -> x.say(32), OUTSIDE);
        same("say(127)", x -> x.say(127), OUTSIDE);
        sameOf(() -> withPad("C/" + ".".repeat(56) + "A2"), "say('.'), full", x -> x.say('.'), FULL);
        sameOf(() -> withPad("C/" + ".".repeat(57) + "A"), "say('2'), full", x -> x.say('2'), FULL);
    }

    private void courts() {
        same("judge(2)", x -> x.judge(2), OUTSIDE);
        same("behind(4, 0)", x -> x.behind(4, 0), UNKNOWN);
        same("behind(0, 4)", x -> x.behind(0, 4), OUTSIDE);
        for (String text : new String[] {"C/.", "C/..A", "C/.AA01", "C/.A1x"}) {
            Supplier<BlowOwed> maker = () -> withPad(text);
            boolean isFaulty = text.equals("C/..A") || text.equals("C/.A1x");
            sameOf(maker, "judge(0), " + text, x -> x.judge(0), isFaulty ? NO : text.equals("C/.") ? NONE : 2);
            sameOf(maker, "behind(2, 2), " + text, x -> x.behind(2, 2), text.equals("C/.") ? 10002 : NO);
            if (!text.equals("C/.")) {
                sameOf(maker, "done(), " + text, x -> x.done(), NO);
            }
        }
        same("debt(0, 4)", x -> x.debt(0, 4), OUTSIDE);
        same("debt(-1, -1)", x -> x.debt(-1, -1), OUTSIDE);
        same("debt(3, 0)", x -> x.debt(3, 0), NONE);
        same("when(3, 0)", x -> x.when(3, 0), UNKNOWN);
        same("when(0, 3)", x -> x.when(0, 3), UNKNOWN);
        same("inTime(3)", x -> x.inTime(3), UNKNOWN);
    }

    private void rounds() {
        same("round(3, 0)", x -> x.round(3, 0), UNKNOWN);
        same("round(0, 3)", x -> x.round(0, 3), OUTSIDE);
        same("hard(0, 3, 1, 1, 0)", x -> x.hard(0, 3, 1, 1, 0), UNKNOWN);
        same("hard(0, 1, 21, 1, 0)", x -> x.hard(0, 1, 21, 1, 0), OUTSIDE);
        same("hard(0, 1, 20, 0, 1), which is not refused", x -> x.hard(0, 1, 20, 0, 1), 10160);
        same("settled(), which is not refused", x -> x.settled(), 0);
        same("ring(), which is not refused", x -> x.ring(), 2);
    }

    private void reckonings() {
        same("reckoned(-1, 0, 0)", x -> x.reckoned(-1, 0, 0), OUTSIDE);
        same("reckoned(0, 0, 3)", x -> x.reckoned(0, 0, 3), OUTSIDE);
        same("kept(9, 0, 0, 0)", x -> x.kept(9, 0, 0, 0), LOST_OUTSIDE);
        same("keeps(0, 0, 0)", x -> x.keeps(0, 0, 0), OUTSIDE);
        same("snow(7, 0, 0, 0)", x -> x.snow(7, 0, 0, 0), LOST_OUTSIDE);
        same("year(10000, 1, 0)", x -> x.year(10000, 1, 0), OUTSIDE);
        same("year(0, 100, 0)", x -> x.year(0, 100, 0), OUTSIDE);
        same("year(0, 1, 4)", x -> x.year(0, 1, 4), OUTSIDE);
    }

    private void sightsAndImages() {
        same("seen(6, 1)", x -> x.seen(6, 1), UNKNOWN);
        same("seen(0, 21)", x -> x.seen(0, 21), OUTSIDE);
        sameOf(RefusedEdges::withSixSights, "seen(0, 1), full", x -> x.seen(0, 1), FULL);
        same("who(3)", x -> x.who(3), OUTSIDE);
        same("image(2)", x -> x.image(2), OUTSIDE);
        same("image(-1)", x -> x.image(-1), OUTSIDE);
        same("restore(2)", x -> x.restore(2), OUTSIDE);
        same("restore(-1)", x -> x.restore(-1), OUTSIDE);
        same("restore(1)", x -> x.restore(1), STATE);
        same("told(6)", x -> x.told(6), OUTSIDE);
        same("told(50), who is not there", x -> x.told(50), OUTSIDE);
        same("told(101), which is not refused", x -> x.told(101), 1);
    }
}
