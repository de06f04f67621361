import java.util.Arrays;

/** Promises 1 to 8: a new object, players, mend, order, bell, prize, of. */
public final class PlayersTest {
    private static final Due DUE = new Due("PlayersTest");
    private static final int BAD = -1, FULL = -3, STATE = -5;

    public static void main(String[] args) {
        newObject();
        players();
        playersFromRows();
        playersThatFillARow();
        playersFromRowsRefused();
        playersFromPlacesBelow0();
        aPlayerNotThereIsTold();
        mended();
        orders();
        bells();
        prizes();
        tellingBeginsTheFightAnew();
        DUE.end();
    }

    private static void newObject() {
        ThreeSnowballs x = new ThreeSnowballs();
        for (int what = 0; what <= 6; what++) {
            DUE.due("1 count(" + what + ")", x.count(what), 0);
        }
        DUE.due("1 of(0, 0)", x.of(0, 0), BAD);
        DUE.due("1 bell(6): 6 at first", x.bell(6), 6);
        int[] first = {9, 4, 2, 1};
        for (int m = 1; m <= 4; m++) {
            DUE.due("1 prize(" + m + ", 0)", x.prize(m, 0), first[m - 1]);
        }
        DUE.due("1 element(0, 0): a shelf holds nothing", x.put(0, 0, 1), -11);
        DUE.due("1 undo()", x.undo(), STATE);
        DUE.due("1 redo()", x.redo(), STATE);
        DUE.due("1 trace(0)", x.trace(0), BAD);
        DUE.due("VOID", ThreeSnowballs.VOID, -2000000000);
    }

    private static void players() {
        ThreeSnowballs x = new ThreeSnowballs();
        int[][] wrong = {{-1, 0}, {13, 0}, {0, -1}, {0, 6}, {Integer.MIN_VALUE, 0}, {0, Integer.MAX_VALUE}};
        for (int[] w : wrong) {
            DUE.due("2 player(" + w[0] + ", " + w[1] + ")", x.player(w[0], w[1]), BAD);
        }
        DUE.due("2 a refused one is not kept", x.count(0), 0);
        int[][] told = {{0, 0}, {12, 5}, {7, 3}, {1, 2}};
        for (int i = 0; i < 4; i++) {
            DUE.due("2 player " + i, x.player(told[i][0], told[i][1]), i);
        }
        for (int i = 0; i < 4; i++) {
            DUE.due("2 of(" + i + ", 0)", x.of(i, 0), told[i][0]);
            DUE.due("8 of(" + i + ", 1)", x.of(i, 1), told[i][1]);
            DUE.due("8 of(" + i + ", 2)", x.of(i, 2), 0);
            DUE.due("8 of(" + i + ", 3)", x.of(i, 3), i);
            DUE.due("8 of(" + i + ", 4)", x.of(i, 4), 1);
        }
        DUE.due("2 a fifth", x.player(3, 3), FULL);
        DUE.due("2 a fifth that is not so", x.player(13, 3), BAD);
        DUE.due("2 count(0)", x.count(0), 4);
        int[][] wrongOf = {{4, 0}, {-1, 0}, {0, -1}, {0, 5}};
        for (int[] w : wrongOf) {
            DUE.due("8 of(" + w[0] + ", " + w[1] + ")", x.of(w[0], w[1]), BAD);
        }
    }

    private static void playersFromRows() {
        ThreeSnowballs x = new ThreeSnowballs();
        Tell.row(x, 5, 9, 4, 1, 12, 5, 0, 0, 6);
        DUE.due("3 players(5, 1, 1): from a place on", x.players(5, 1, 1), 1);
        DUE.due("3 hits", x.of(0, 0), 4);
        DUE.due("3 way", x.of(0, 1), 1);
        DUE.due("3 players(5, 3, 4): it ends within a two", x.players(5, 3, 4), 2);
        DUE.due("3 hits", x.of(1, 0), 12);
        DUE.due("3 way", x.of(2, 1), 0);
        DUE.due("3 players(5, 7, 1): it ends", x.players(5, 7, 1), 0);
        DUE.due("3 players(5, 8, 1): it ends", x.players(5, 8, 1), 0);
        DUE.due("3 players(5, MAX, 4)", x.players(5, Integer.MAX_VALUE, 4), 0);
        DUE.due("3 players(5, 1, 4): full behind one", x.players(5, 1, 4), 1);
        DUE.due("3 count(0)", x.count(0), 4);
        DUE.due("3 players(5, 1, 4): full", x.players(5, 1, 4), 0);

        x = new ThreeSnowballs();
        Tell.row(x, 0, 5, 5, 6, 6, 7, 0);
        DUE.due("3 one is not so: a way", x.players(0, 0, 3), 1);
        Tell.row(x, 0, 5, 5, 13, 0);
        DUE.due("3 one is not so: hits", x.players(0, 0, 3), 1);
        Tell.row(x, 0, -1, 5);
        DUE.due("3 one is not so: hits below 0", x.players(0, 0, 1), 0);
        Tell.row(x, 0, 5, -1);
        DUE.due("3 one is not so: a way below 0", x.players(0, 0, 1), 0);
        Tell.row(x, 0, 5);
        DUE.due("3 a row of one", x.players(0, 0, 1), 0);
        DUE.due("3 those ahead came", x.count(0), 2);
    }

    private static void playersThatFillARow() {
        int[] told = {12, 5, 0, 0, 7, 3, 1, 2};
        for (int n = 1; n <= 4; n++) {
            ThreeSnowballs x = new ThreeSnowballs();
            x.row(3, 0, 2 * n);
            for (int i = 0; i < 2 * n; i++) {
                x.put(3, i, told[i]);
            }
            DUE.due("3 players(3, 0, " + n + "): all of the row", x.players(3, 0, n), n);
            for (int player = 0; player < n; player++) {
                DUE.due("3 HITS of " + player, x.of(player, 0), told[2 * player]);
                DUE.due("3 WAY of " + player, x.of(player, 1), told[2 * player + 1]);
                DUE.due("3 whom TOLD of " + player, x.of(player, 2), 0);
                DUE.due("3 " + player + " is last in the ORDER", x.of(player, 3), player);
            }
            DUE.due("3 no more are there", x.count(0), n);
            x = new ThreeSnowballs();
            Tell.row(x, 3, Arrays.copyOf(told, 2 * n));
            DUE.due("3 players(3, 0, 4) from " + n + " twos", x.players(3, 0, 4), n);
            x = new ThreeSnowballs();
            Tell.row(x, 3, Arrays.copyOf(told, 2 * n - 1));
            DUE.due("3 players(3, 0, " + n + "): a byte lacks", x.players(3, 0, n), n - 1);
        }
        ThreeSnowballs x = Tell.players(3, 3, 3, 3);
        x.order(21);
        x.row(0, 0, 60);
        x.put(0, 58, 6);
        x.put(0, 59, 4);
        DUE.due("3 players(0, 60, 1): behind the last place", x.players(0, 60, 1), 0);
        DUE.due("3 players(0, 59, 1): the last place", x.players(0, 59, 1), 0);
        DUE.due("3 players(0, 58, 2): the last two", x.players(0, 58, 2), 1);
        DUE.due("3 who came is last in the ORDER", x.of(2, 3), 2);
        DUE.due("3 the others as they were", x.of(1, 3), 0);
        DUE.due("3 WAY", x.of(2, 1), 4);
        x.row(0, 0, 0);
        DUE.due("3 a ROW of no elements", x.players(0, 0, 1), 0);
    }

    /** Whom one has TOLD itself need not be there, and counts as soon as it is. */
    private static void aPlayerNotThereIsTold() {
        ThreeSnowballs x = Tell.players(12, 4, 12, 2);
        DUE.due("4 mend(0, 2, 2)", x.mend(0, 2, 2), 0);
        DUE.due("26 it is not there: into the air", x.step(0), 90);
        x.player(12, 2);
        DUE.due("26 it is there", x.step(0), 21);
    }

    private static void playersFromRowsRefused() {
        ThreeSnowballs x = new ThreeSnowballs();
        Tell.row(x, 0, 5, 5);
        x.row(1, 1, 4);
        x.body(0);
        x.keep(2, 0);
        int[][] wrong = {{-1, 0, 1}, {6, 0, 1}, {0, 0, 0}, {0, 0, 5}, {0, 0, -1}, {1, 0, 5}, {6, -1, 1}, {0, -1, 0}};
        for (int[] w : wrong) {
            DUE.due("3 players(" + w[0] + ", " + w[1] + ", " + w[2] + ")", x.players(w[0], w[1], w[2]), BAD);
        }
        DUE.due("3 a row of shorts", x.players(1, 0, 1), -12);
        DUE.due("3 a thrower", x.players(2, 0, 1), -12);
        DUE.due("3 the row is missing", x.players(3, 0, 4), 0);
        DUE.due("3 nobody came", x.count(0), 0);
    }

    /** There is no PLAYER at such a place, but it is no wrong one. */
    private static void playersFromPlacesBelow0() {
        ThreeSnowballs x = Tell.players(12, 3, 12, 3, 12, 3);
        Tell.row(x, 0, 5, 5, 6, 0, 7, 1);
        x.row(1, 1, 4);
        x.body(0);
        x.keep(2, 0);
        x.step(0);
        x.image();
        for (int i : new int[] {-1, -2, -6, -7, -60, Integer.MIN_VALUE, Integer.MIN_VALUE + 1}) {
            for (int n = 1; n <= 4; n++) {
                DUE.due("3 players(0, " + i + ", " + n + "): a row of bytes", x.players(0, i, n), 0);
                DUE.due("3 players(3, " + i + ", " + n + "): the row is missing", x.players(3, i, n), 0);
                DUE.due("3 players(1, " + i + ", " + n + "): a row of shorts", x.players(1, i, n), -12);
                DUE.due("3 players(2, " + i + ", " + n + "): a thrower", x.players(2, i, n), -12);
            }
        }
        DUE.due("3 nobody came", x.count(0), 3);
        DUE.due("3 the FIGHT in deed goes on", x.count(2), 1);
        DUE.due("3 the IMAGE stays", x.back(), 1);
    }

    private static void mended() {
        ThreeSnowballs x = new ThreeSnowballs();
        x.player(5, 2);
        int[] greatest = {12, 5, 3};
        int[] was = {5, 2, 0};
        for (int what = 0; what < 3; what++) {
            DUE.due("4 above the greatest", x.mend(0, what, greatest[what] + 1), BAD);
            DUE.due("4 below 0", x.mend(0, what, -1), BAD);
            DUE.due("4 the greatest", x.mend(0, what, greatest[what]), was[what]);
            DUE.due("4 it is so", x.of(0, what), greatest[what]);
            DUE.due("4 the same", x.mend(0, what, greatest[what]), greatest[what]);
            DUE.due("4 the least", x.mend(0, what, 0), greatest[what]);
        }
        int[][] wrong = {{1, 0, 0}, {-1, 0, 0}, {0, 3, 0}, {0, -1, 0}};
        for (int[] w : wrong) {
            DUE.due("4 mend(" + w[0] + ", " + w[1] + ", 0)", x.mend(w[0], w[1], w[2]), BAD);
        }
    }

    private static void orders() {
        ThreeSnowballs x = new ThreeSnowballs();
        DUE.due("5 order(0): nobody", x.order(0), 1);
        DUE.due("5 order(1): nobody", x.order(1), BAD);
        x.player(1, 1);
        DUE.due("5 order(0): one", x.order(0), BAD);
        DUE.due("5 order(1): one", x.order(1), 1);
        x.player(1, 1);
        x.player(1, 1);
        int[] wrong = {12, 1234, 122, 113, 124, 102, 23, 0, -123, 1123, Integer.MAX_VALUE, Integer.MIN_VALUE};
        for (int digits : wrong) {
            DUE.due("5 order(" + digits + ")", x.order(digits), BAD);
        }
        DUE.due("5 order as it was", x.of(0, 3), 0);
        DUE.due("5 order(231)", x.order(231), 1);
        DUE.due("8 of(0, 3)", x.of(0, 3), 2);
        DUE.due("8 of(1, 3)", x.of(1, 3), 0);
        DUE.due("8 of(2, 3)", x.of(2, 3), 1);
        DUE.due("5 a refused one", x.order(331), BAD);
        DUE.due("5 changes nothing", x.of(1, 3), 0);
        x.player(0, 0);
        DUE.due("2 whoever comes is last", x.of(3, 3), 3);
        DUE.due("2 the others as they were", x.of(0, 3), 2);
        DUE.due("5 order(4321)", x.order(4321), 1);
        DUE.due("8 of(3, 3)", x.of(3, 3), 0);
    }

    private static void bells() {
        ThreeSnowballs x = new ThreeSnowballs();
        x.player(12, 3);
        x.player(12, 3);
        DUE.due("6 bell(-1)", x.bell(-1), BAD);
        DUE.due("6 bell(10)", x.bell(10), BAD);
        DUE.due("6 bell(9)", x.bell(9), 6);
        DUE.due("6 bell(0)", x.bell(0), 9);
        DUE.due("6 no throw: both are in", x.just(3, 0), 1);
        DUE.due("6 bell(1)", x.bell(1), 0);
        DUE.due("6 a throw: one is alone", x.worth(0, 2, 0), 1);
    }

    private static void prizes() {
        ThreeSnowballs x = new ThreeSnowballs();
        x.player(0, 2);
        int[][] wrong = {{0, 1}, {5, 1}, {-1, 1}, {1, -1}, {1, 10}};
        for (int[] w : wrong) {
            DUE.due("7 prize(" + w[0] + ", " + w[1] + ")", x.prize(w[0], w[1]), BAD);
        }
        DUE.due("7 prize(1, 7)", x.prize(1, 7), 9);
        DUE.due("7 prize(1, 7) again", x.prize(1, 7), 7);
        DUE.due("7 its worth", x.worth(0, 0, 0), 7);
        x.player(0, 2);
        DUE.due("7 prize(2, 9)", x.prize(2, 9), 4);
        DUE.due("7 its worth", x.worth(1, 0, 0), 9);
        x.player(0, 2);
        DUE.due("7 prize(3, 0)", x.prize(3, 0), 2);
        DUE.due("7 its worth", x.worth(1, 0, 0), 0);
        x.player(0, 2);
        DUE.due("7 prize(4, 8)", x.prize(4, 8), 1);
        DUE.due("7 its worth", x.worth(3, 0, 0), 8);
    }

    private static void tellingBeginsTheFightAnew() {
        ThreeSnowballs x = new ThreeSnowballs();
        x.player(12, 0);
        x.player(12, 2);
        x.player(12, 2);
        DUE.due("step(0)", x.step(0), 11);
        DUE.due("8 of(1, 4): out", x.of(1, 4), 0);
        DUE.due("8 of(0, 4): in", x.of(0, 4), 1);
        x.mend(0, 0, 11);
        x.prize(3, 3);
        x.players(0, 0, 1);
        x.order(111);
        x.bell(11);
        x.player(13, 0);
        Tell.law(x, "h");
        Tell.law(x, "h+");
        x.undo();
        x.redo();
        DUE.due("all that goes on", x.count(2), 1);
        DUE.due("who is out stays so", x.count(1), 5);
        x.player(0, 0);
        DUE.due("2 a player begins it anew", x.count(2), 0);
        DUE.due("2 all are in", x.count(1), 15);
        x.step(0);
        x.order(2134);
        DUE.due("5 an order begins it anew", x.count(2), 0);
        DUE.due("5 its first throws", x.step(0), 190);
        x.bell(6);
        DUE.due("6 a bell begins it anew", x.count(2), 0);
    }
}
