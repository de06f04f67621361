import java.util.ArrayList;
import java.util.List;

/**
 * "What is answered so changes nothing", and no question does: of two objects told the same, one is
 * asked it; all that can be seen of them, then and by what they do later on, is the same.
 */
public final class RefusedTest {
    private static final Due DUE = new Due("RefusedTest");
    private static final int BAD = -1, NOT = -2, FULL = -3, STATE = -5;
    private static final int MIN = Integer.MIN_VALUE, MAX = Integer.MAX_VALUE;
    private static final long NONE = Long.MIN_VALUE;
    private static final int ROW = 0, THROWER = 1, LONGS = 2, BOOLEANS = 3, NOTHING = 4, TOLD = 5;

    private interface Call {
        long on(ThreeSnowballs x);
    }

    public static void main(String[] args) {
        players();
        playersFromRows();
        laws();
        whatMayHappen();
        toldSeenDrawn();
        inDeed();
        throwers();
        shelves();
        full();
        nothingToUndo();
        questions();
        DUE.end();
    }

    /** Three PLAYERS amid a FIGHT in deed, with something told of everything. */
    private static ThreeSnowballs amid() {
        ThreeSnowballs x = Tell.players(9, 0, 5, 5, 7, 3);
        x.order(231);
        x.bell(7);
        x.prize(2, 6);
        Tell.law(x, "n>3?h-1;h");
        x.mend(0, 0, 4);
        x.mend(1, 2, 2);
        x.mend(2, 1, 1);
        x.mend(2, 0, 8);
        x.undo();
        x.undo();
        x.feed('h');
        x.feed('+');
        x.step(11);
        x.image();
        x.step(0);
        x.body(3);
        x.body(7);
        x.act(1, 2, 5);
        Tell.row(x, ROW, 2, 0, 9, 0);
        x.keep(THROWER, 0);
        x.row(LONGS, 3, 2);
        x.put(LONGS, 1, 1L << 40);
        x.row(BOOLEANS, 4, 2);
        x.put(BOOLEANS, 0, 5);
        Tell.row(x, TOLD, 13, 0);
        return x;
    }

    /** All that an object tells; what it is asked for that changes it, so this is the last of it. */
    private static List<Long> seen(ThreeSnowballs x) {
        List<Long> seen = new ArrayList<>();
        told(x, seen);
        for (int shelf = 0; shelf < 6; shelf++) {
            seen.add((long) x.taken(shelf, 0));
            for (int i = 0; i <= 4; i++) {
                seen.add(x.element(shelf, i));
            }
        }
        for (int i = 0; i <= 4; i++) {
            seen.add((long) x.trace(i));
        }
        seen.add((long) x.law());
        for (int i = 0; i < 2; i++) {
            seen.add((long) x.step(6));
            told(x, seen);
            seen.add((long) x.back());
        }
        for (int i = 0; i < 6; i++) {
            seen.add((long) (i < 3 ? x.redo() : x.undo()));
            mended(x, seen);
        }
        seen.add((long) x.anew());
        seen.add((long) x.prize(1, 0));
        seen.add((long) x.prize(3, 0));
        seen.add((long) x.bell(0));
        return seen;
    }

    private static void told(ThreeSnowballs x, List<Long> seen) {
        for (int what = 0; what <= 6; what++) {
            seen.add((long) x.count(what));
        }
        mended(x, seen);
        for (int player = 0; x.of(player, 0) >= 0; player++) {
            seen.add((long) x.of(player, 3));
            seen.add((long) x.of(player, 4));
            seen.add(x.worth(player, 0, 0));
            seen.add(x.worth(player, 0, 1));
        }
    }

    private static void mended(ThreeSnowballs x, List<Long> seen) {
        for (int player = 0; player < 4; player++) {
            for (int what = 0; what <= 2; what++) {
                seen.add((long) x.of(player, what));
            }
        }
    }

    private static void same(String call, ThreeSnowballs asked, ThreeSnowballs other) {
        List<Long> due = seen(other);
        List<Long> got = seen(asked);
        DUE.due("behind " + call + ": what is seen", got.size(), due.size());
        for (int i = 0; i < Math.min(got.size(), due.size()); i++) {
            DUE.due("behind " + call + ": the " + i + "th that is seen", got.get(i), due.get(i));
        }
    }

    private static void refused(String call, long due, Call asks) {
        ThreeSnowballs x = amid();
        DUE.due(call, asks.on(x), due);
        same(call, x, amid());
    }

    private static void players() {
        refused("2 player(13, 0)", BAD, x -> x.player(13, 0));
        refused("2 player(0, 6)", BAD, x -> x.player(0, 6));
        refused("4 mend(3, 0, 0)", BAD, x -> x.mend(3, 0, 0));
        refused("4 mend(0, 3, 0)", BAD, x -> x.mend(0, 3, 0));
        refused("4 mend(0, 0, 13)", BAD, x -> x.mend(0, 0, 13));
        refused("4 mend(0, 1, 6)", BAD, x -> x.mend(0, 1, 6));
        refused("4 mend(0, 2, 4)", BAD, x -> x.mend(0, 2, 4));
        refused("4 mend(0, 0, -1)", BAD, x -> x.mend(0, 0, -1));
        refused("4 mend(0, 0, 4): the same number is no change", 4, x -> x.mend(0, 0, 4));
        refused("5 order(122)", BAD, x -> x.order(122));
        refused("5 order(12)", BAD, x -> x.order(12));
        refused("5 order(1234)", BAD, x -> x.order(1234));
        refused("5 order(0)", BAD, x -> x.order(0));
        refused("6 bell(10)", BAD, x -> x.bell(10));
        refused("6 bell(-1)", BAD, x -> x.bell(-1));
        refused("7 prize(5, 0)", BAD, x -> x.prize(5, 0));
        refused("7 prize(0, 0)", BAD, x -> x.prize(0, 0));
        refused("7 prize(2, 10)", BAD, x -> x.prize(2, 10));
        refused("7 prize(2, -1)", BAD, x -> x.prize(2, -1));
        refused("8 of(3, 0)", BAD, x -> x.of(3, 0));
        refused("8 of(0, 5)", BAD, x -> x.of(0, 5));
    }

    private static void playersFromRows() {
        refused("3 players(6, 0, 1)", BAD, x -> x.players(6, 0, 1));
        refused("3 players(ROW, 0, 5)", BAD, x -> x.players(ROW, 0, 5));
        refused("3 players(ROW, 0, 0)", BAD, x -> x.players(ROW, 0, 0));
        refused("3 players(THROWER, 0, 1)", -12, x -> x.players(THROWER, 0, 1));
        refused("3 players(LONGS, 0, 1)", -12, x -> x.players(LONGS, 0, 1));
        refused("3 players(BOOLEANS, 0, 1)", -12, x -> x.players(BOOLEANS, 0, 1));
        refused("3 players(NOTHING, 0, 1): none came", 0, x -> x.players(NOTHING, 0, 1));
        refused("3 players(TOLD, 0, 1): one is not so", 0, x -> x.players(TOLD, 0, 1));
        refused("3 players(TOLD, 1, 1): within a two", 0, x -> x.players(TOLD, 1, 1));
    }

    private static void laws() {
        refused("9 feed(256)", BAD, x -> x.feed(256));
        refused("9 feed(-1)", BAD, x -> x.feed(-1));
        refused("9 feed(MIN)", BAD, x -> x.feed(MIN));
    }

    private static void whatMayHappen() {
        refused("11 worth(3, 0, 0)", NONE, x -> x.worth(3, 0, 0));
        refused("11 worth(0, 3, 0)", NONE, x -> x.worth(0, 3, 0));
        refused("12 just(8, 0)", NONE, x -> x.just(8, 0));
        refused("12 just(0, 2)", NONE, x -> x.just(0, 2));
        refused("13 aims(0, 6, 0)", BAD, x -> x.aims(0, 6, 0));
        refused("13 aims(0, 7, 7)", BAD, x -> x.aims(0, 7, 7));
        refused("13 aims(0, 1, 0): at nobody", NOT, x -> x.aims(0, 1, 0));
        refused("14 begin(3)", BAD, x -> x.begin(3));
        refused("16 would(3)", BAD, x -> x.would(3));
        refused("18 settle(3)", BAD, x -> x.settle(3));
        refused("18 settle(-2)", BAD, x -> x.settle(-2));
        refused("19 even(3)", BAD, x -> x.even(3));
        refused("20 league(11)", BAD, x -> x.league(11));
        refused("20 league(3)", BAD, x -> x.league(3));
        refused("21 points(3)", BAD, x -> x.points(3));
    }

    private static void toldSeenDrawn() {
        refused("22 judge(6, 0)", BAD, x -> x.judge(6, 0));
        refused("22 judge(ROW, 2)", BAD, x -> x.judge(ROW, 2));
        refused("22 judge(NOTHING, 0)", -11, x -> x.judge(NOTHING, 0));
        refused("22 judge(THROWER, 0)", -12, x -> x.judge(THROWER, 0));
        refused("22 judge(LONGS, 1)", -12, x -> x.judge(LONGS, 1));
        refused("23 chance(6, 0)", NONE, x -> x.chance(6, 0));
        refused("23 chance(NOTHING, 0)", NONE, x -> x.chance(NOTHING, 0));
        refused("23 chance(LONGS, 0)", NONE, x -> x.chance(LONGS, 0));
        refused("24 seen(2, 1)", BAD, x -> x.seen(2, 1));
        refused("24 seen(0, 13)", BAD, x -> x.seen(0, 13));
        refused("25 drawn(1, 31, 0)", BAD, x -> x.drawn(1, 31, 0));
        refused("25 drawn(1, 1, 3)", BAD, x -> x.drawn(1, 1, 3));
    }

    private static void inDeed() {
        refused("26 step(12)", BAD, x -> x.step(12));
        refused("26 step(-1)", BAD, x -> x.step(-1));
        ThreeSnowballs[] two = {Tell.players(12, 3, 12, 3), Tell.players(12, 3, 12, 3)};
        for (ThreeSnowballs x : two) {
            x.step(0);
        }
        DUE.due("26 step(0): over", two[0].step(0), STATE);
        DUE.due("29 back(): there is none", two[0].back(), STATE);
        same("step(0), back()", two[0], two[1]);
    }

    private static void throwers() {
        refused("32 body(8)", BAD, x -> x.body(8));
        refused("32 body(-1)", BAD, x -> x.body(-1));
        refused("34 trace(4)", BAD, x -> x.trace(4));
        refused("34 trace(-1)", BAD, x -> x.trace(-1));
        refused("35 keep(ROW, 2)", BAD, x -> x.keep(ROW, 2));
        refused("35 keep(ROW, -2)", BAD, x -> x.keep(ROW, -2));
        refused("35 keep(6, 0)", BAD, x -> x.keep(6, 0));
        refused("40 taken(6, 0)", BAD, x -> x.taken(6, 0));
        refused("40 taken(THROWER, 8)", BAD, x -> x.taken(THROWER, 8));
        refused("40 taken(THROWER, 1): not under it", -12, x -> x.taken(THROWER, 1));
        refused("40 taken(ROW, 0)", -12, x -> x.taken(ROW, 0));
        refused("40 taken(NOTHING, 0)", -11, x -> x.taken(NOTHING, 0));
    }

    private static void shelves() {
        refused("36 row(ROW, 5, 1)", BAD, x -> x.row(ROW, 5, 1));
        refused("36 row(ROW, 0, 61)", BAD, x -> x.row(ROW, 0, 61));
        refused("36 row(ROW, 0, -1)", -14, x -> x.row(ROW, 0, -1));
        refused("36 row(THROWER, 0, MIN)", -14, x -> x.row(THROWER, 0, MIN));
        refused("36 row(NOTHING, 3, -1)", -14, x -> x.row(NOTHING, 3, -1));
        refused("37 put(6, 0, 1)", BAD, x -> x.put(6, 0, 1));
        refused("37 put(NOTHING, 0, 1)", -11, x -> x.put(NOTHING, 0, 1));
        refused("37 put(THROWER, 0, 1)", -12, x -> x.put(THROWER, 0, 1));
        refused("37 put(ROW, 4, 1)", -13, x -> x.put(ROW, 4, 1));
        refused("37 put(ROW, -1, 1)", -13, x -> x.put(ROW, -1, 1));
        refused("38 element(ROW, 4)", NONE, x -> x.element(ROW, 4));
        refused("39 shift(6, 0, ROW, 0, 1)", BAD, x -> x.shift(6, 0, ROW, 0, 1));
        refused("39 shift(ROW, 0, NOTHING, 0, 1)", -11, x -> x.shift(ROW, 0, NOTHING, 0, 1));
        refused("39 shift(ROW, 0, LONGS, 0, 1)", -12, x -> x.shift(ROW, 0, LONGS, 0, 1));
        refused("39 shift(THROWER, 0, ROW, 0, 1)", -12, x -> x.shift(THROWER, 0, ROW, 0, 1));
        refused("39 shift(ROW, 0, TOLD, 0, 3)", -13, x -> x.shift(ROW, 0, TOLD, 0, 3));
        refused("39 shift(TOLD, 0, ROW, 0, 3)", -13, x -> x.shift(TOLD, 0, ROW, 0, 3));
        refused("39 shift(ROW, 0, ROW, 1, 4)", -13, x -> x.shift(ROW, 0, ROW, 1, 4));
        refused("39 shift(ROW, MAX, TOLD, 0, 1)", -13, x -> x.shift(ROW, MAX, TOLD, 0, 1));
        refused("39 shift(ROW, 0, TOLD, 0, -1)", -13, x -> x.shift(ROW, 0, TOLD, 0, -1));
        refused("41 count(7)", BAD, x -> x.count(7));
    }

    /** All places taken: PLAYERS, THE TAPE, BODIES. */
    private static ThreeSnowballs amidAndFull() {
        ThreeSnowballs x = Tell.players(9, 0, 5, 5, 7, 3, 6, 1);
        for (int i = 0; i < 50; i++) {
            x.body(7);
        }
        x.keep(THROWER, 49);
        x.mend(0, 0, 4);
        x.mend(1, 0, 4);
        x.undo();
        x.step(0);
        x.image();
        Tell.row(x, ROW, 1, 1, 2, 2);
        for (int i = 0; i < 120; i++) {
            x.feed(i % 2 == 0 ? '1' : '+');
        }
        return x;
    }

    private static void full() {
        ThreeSnowballs x = amidAndFull();
        DUE.due("2 player(1, 1)", x.player(1, 1), FULL);
        DUE.due("3 players(ROW, 0, 2)", x.players(ROW, 0, 2), 0);
        DUE.due("9 feed('1')", x.feed('1'), FULL);
        DUE.due("32 body(0)", x.body(0), FULL);
        same("FULL", x, amidAndFull());
    }

    private static void nothingToUndo() {
        ThreeSnowballs x = amid();
        ThreeSnowballs other = amid();
        for (ThreeSnowballs one : new ThreeSnowballs[] {x, other}) {
            one.redo();
            one.redo();
        }
        DUE.due("31 redo()", x.redo(), STATE);
        same("redo()", x, other);
        x = amid();
        other = amid();
        for (ThreeSnowballs one : new ThreeSnowballs[] {x, other}) {
            one.undo();
            one.undo();
        }
        DUE.due("30 undo()", x.undo(), STATE);
        same("undo()", x, other);
    }

    /** Whatever is asked in thought leaves all as it was: answers and all that comes behind. */
    private static void questions() {
        Call[] asks = {
            x -> x.worth(1, 0, 0), x -> x.worth(2, 1, 1), x -> x.worth(0, 2, 0), x -> x.just(-1, 0), x -> x.just(7, 1),
            x -> x.aims(1, 7, 6), x -> x.begin(1), x -> x.fair(), x -> x.would(0), x -> x.would(1), x -> x.rest(),
            x -> x.settle(-1), x -> x.settle(2), x -> x.even(0), x -> x.even(2), x -> x.league(12), x -> x.points(0),
            x -> x.judge(ROW, 0), x -> x.judge(ROW, 1), x -> x.chance(ROW, 1), x -> x.seen(3, 7), x -> x.drawn(5, 30, 1),
            x -> x.of(2, 4), x -> x.trace(1), x -> x.element(LONGS, 1), x -> x.taken(THROWER, 2), x -> x.count(1)
        };
        for (int i = 0; i < asks.length; i++) {
            ThreeSnowballs x = amid();
            DUE.due("the " + i + "th question, twice the same", asks[i].on(x), asks[i].on(x));
            same("the " + i + "th question", x, amid());
        }
    }
}
