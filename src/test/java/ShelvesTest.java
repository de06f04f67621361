/** Promises 35 to 41: keep, row, put, element, shift, taken, count. */
public final class ShelvesTest {
    private static final Due DUE = new Due("ShelvesTest");
    private static final int BAD = -1;
    private static final long NONE = Long.MIN_VALUE;

    public static void main(String[] args) {
        nothingAtFirst();
        keeping();
        rows();
        elements();
        lowestBits();
        shifts();
        shiftsOfEachSort();
        shiftsRefused();
        kinds();
        counts();
        DUE.end();
    }

    private static void nothingAtFirst() {
        ThreeSnowballs x = new ThreeSnowballs();
        for (int shelf = 0; shelf < 6; shelf++) {
            DUE.due("40 taken(" + shelf + ", 0)", x.taken(shelf, 0), -11);
            DUE.due("37 put(" + shelf + ", 0, 1)", x.put(shelf, 0, 1), -11);
            DUE.due("22 judge(" + shelf + ", 0)", x.judge(shelf, 0), -11);
            DUE.due("39 shift(" + shelf + ", 0, 0, 0, 0)", x.shift(shelf, 0, 0, 0, 0), -11);
            DUE.due("3 players(" + shelf + ", 0, 1)", x.players(shelf, 0, 1), 0);
        }
    }

    private static void keeping() {
        ThreeSnowballs x = new ThreeSnowballs();
        DUE.due("35 keep(0, 0): no such body", x.keep(0, 0), BAD);
        DUE.due("35 keep(0, -1)", x.keep(0, -1), 1);
        x.body(6);
        for (int shelf = 0; shelf < 6; shelf++) {
            DUE.due("35 keep(" + shelf + ", 0)", x.keep(shelf, 0), 1);
            DUE.due("40 taken(" + shelf + ", 6)", x.taken(shelf, 6), 6);
        }
        int[][] wrong = {{-1, 0}, {6, 0}, {0, 1}, {0, -2}, {6, -1}, {0, Integer.MAX_VALUE}};
        for (int[] w : wrong) {
            DUE.due("35 keep(" + w[0] + ", " + w[1] + ")", x.keep(w[0], w[1]), BAD);
        }
        DUE.due("35 a refused one changes nothing", x.taken(0, 6), 6);
        DUE.due("35 keep(0, -1)", x.keep(0, -1), 1);
        DUE.due("35 it holds nothing", x.taken(0, 6), -11);
        x.row(1, 3, 4);
        DUE.due("35 a row goes", x.keep(1, 0), 1);
        DUE.due("35 a row goes", x.put(1, 0, 1), -12);
        x.row(1, 3, 4);
        DUE.due("36 a thrower goes", x.taken(1, 6), -12);
        x.keep(1, -1);
        DUE.due("35 a row goes", x.put(1, 0, 1), -11);
    }

    private static void rows() {
        ThreeSnowballs x = new ThreeSnowballs();
        int[][] wrong = {{-1, 0, 1}, {6, 0, 1}, {0, -1, 1}, {0, 5, 1}, {0, 0, 61}, {6, 0, -1}, {0, 5, -1},
            {0, 0, Integer.MAX_VALUE}};
        for (int[] w : wrong) {
            DUE.due("36 row(" + w[0] + ", " + w[1] + ", " + w[2] + ")", x.row(w[0], w[1], w[2]), BAD);
        }
        DUE.due("36 row(0, 0, -1)", x.row(0, 0, -1), -14);
        DUE.due("36 row(0, 4, MIN)", x.row(0, 4, Integer.MIN_VALUE), -14);
        DUE.due("36 a refused one changes nothing", x.put(0, 0, 1), -11);
        for (int sort = 0; sort < 5; sort++) {
            DUE.due("36 row(0, " + sort + ", 60)", x.row(0, sort, 60), 1);
            for (int i = 0; i < 60; i++) {
                DUE.due("36 0 at first", x.element(0, i), 0);
                x.put(0, i, -1);
            }
            DUE.due("36 its end", x.put(0, 60, 1), -13);
        }
        DUE.due("36 row(0, 2, 0)", x.row(0, 2, 0), 1);
        DUE.due("36 of none", x.put(0, 0, 1), -13);
        DUE.due("36 row(0, 2, 1) anew", x.row(0, 2, 1), 1);
        DUE.due("36 0 at first", x.element(0, 0), 0);
    }

    private static void elements() {
        ThreeSnowballs x = new ThreeSnowballs();
        x.body(2);
        x.keep(1, 0);
        x.row(2, 3, 3);
        int[][] refused = {{-1, 0, BAD}, {6, 0, BAD}, {0, 0, -11}, {0, -1, -11}, {1, 0, -12}, {1, -1, -12},
            {2, -1, -13}, {2, 3, -13}, {2, Integer.MAX_VALUE, -13}, {2, Integer.MIN_VALUE, -13}};
        for (int[] r : refused) {
            DUE.due("37 put(" + r[0] + ", " + r[1] + ", 7)", x.put(r[0], r[1], 7), r[2]);
            DUE.due("38 element(" + r[0] + ", " + r[1] + ")", x.element(r[0], r[1]), NONE);
        }
        for (int i = 0; i < 3; i++) {
            DUE.due("38 as it was", x.element(2, i), 0);
            DUE.due("37 put(2, " + i + ", ..)", x.put(2, i, 70 + i), 1);
        }
        for (int i = 0; i < 3; i++) {
            DUE.due("38 element(2, " + i + ")", x.element(2, i), 70 + i);
        }
    }

    private static void lowestBits() {
        ThreeSnowballs x = new ThreeSnowballs();
        long[] vs = {0, 1, -1, 127, 128, 255, 256, 32767, 32768, 65536, 2147483647L, 2147483648L, 4294967296L, 1L << 40,
            -129, -32769, -2147483649L, Long.MAX_VALUE, Long.MIN_VALUE, 0x123456789abcdef0L};
        for (int sort = 0; sort < 5; sort++) {
            x.row(5, sort, 1);
            for (long v : vs) {
                long due = sort == 0 ? (byte) v : sort == 1 ? (short) v : sort == 2 ? (int) v : sort == 3 ? v : v == 0 ? 0 : 1;
                x.put(5, 0, v);
                DUE.due("37 sort " + sort + ", " + v, x.element(5, 0), due);
            }
        }
    }

    private static void fill(ThreeSnowballs x, int shelf, int sort, int n, int from) {
        x.row(shelf, sort, n);
        for (int i = 0; i < n; i++) {
            x.put(shelf, i, from + i);
        }
    }

    private static void holds(ThreeSnowballs x, int shelf, int... due) {
        for (int i = 0; i < due.length; i++) {
            DUE.due("39 element(" + shelf + ", " + i + ")", x.element(shelf, i), due[i]);
        }
    }

    private static void shifts() {
        ThreeSnowballs x = new ThreeSnowballs();
        fill(x, 0, 2, 6, 10);
        fill(x, 1, 2, 4, 20);
        DUE.due("39 shift(0, 1, 1, 2, 2)", x.shift(0, 1, 1, 2, 2), 2);
        holds(x, 1, 20, 21, 11, 12);
        holds(x, 0, 10, 11, 12, 13, 14, 15);
        DUE.due("39 the same, on", x.shift(0, 0, 0, 2, 4), 4);
        holds(x, 0, 10, 11, 10, 11, 12, 13);
        fill(x, 0, 2, 6, 10);
        DUE.due("39 the same, back", x.shift(0, 2, 0, 0, 4), 4);
        holds(x, 0, 12, 13, 14, 15, 14, 15);
        DUE.due("39 none, at the ends", x.shift(0, 6, 1, 4, 0), 0);
        DUE.due("39 all", x.shift(1, 0, 0, 0, 4), 4);
        holds(x, 0, 20, 21, 11, 12, 14, 15);
    }

    private static void shiftsOfEachSort() {
        for (int sort = 0; sort < 5; sort++) {
            ThreeSnowballs x = new ThreeSnowballs();
            x.row(0, sort, 60);
            x.row(5, sort, 60);
            x.put(0, 0, 1);
            x.put(0, 59, 1);
            DUE.due("39 shift(0, 0, 5, 0, 60): all", x.shift(0, 0, 5, 0, 60), 60);
            holds(x, 5, 1, 0, 0);
            DUE.due("39 the last", x.element(5, 59), 1);
            DUE.due("39 shift(5, 1, 5, 59, 1): the second to the last", x.shift(5, 1, 5, 59, 1), 1);
            DUE.due("39 the last", x.element(5, 59), 0);
            DUE.due("39 shift(0, 0, 0, 1, 59): the same, on", x.shift(0, 0, 0, 1, 59), 59);
            holds(x, 0, 1, 1, 0);
            DUE.due("39 one goes out at the end", x.element(0, 59), 0);
            for (int other = 0; other < 5; other++) {
                x.row(1, other, 60);
                DUE.due("39 of sorts " + sort + ", " + other, x.shift(0, 0, 1, 0, 1), sort == other ? 1 : -12);
            }
            DUE.due("39 behind the last place, none", x.shift(0, 60, 5, 60, 0), 0);
            DUE.due("39 behind that", x.shift(0, 61, 5, 0, 0), -13);
            DUE.due("39 one too many", x.shift(0, 0, 5, 0, 61), -13);
        }
    }

    private static void shiftsRefused() {
        ThreeSnowballs x = new ThreeSnowballs();
        fill(x, 0, 2, 6, 10);
        fill(x, 1, 2, 4, 20);
        fill(x, 2, 3, 4, 30);
        x.body(0);
        x.keep(3, 0);
        x.keep(4, 0);
        int max = Integer.MAX_VALUE;
        int[][] refused = {
            {-1, 0, 1, 0, 1, BAD}, {6, 0, 1, 0, 1, BAD}, {0, 0, -1, 0, 1, BAD}, {0, 0, 6, 0, 1, BAD}, {5, 0, 6, 0, 1, BAD},
            {5, 0, 0, 0, 1, -11}, {0, 0, 5, 0, 1, -11}, {5, 0, 3, 0, 1, -11}, {3, 0, 5, 0, 1, -11}, {5, -1, 5, 0, -1, -11},
            {0, 0, 2, 0, 1, -12}, {2, 0, 0, 0, 1, -12}, {0, 0, 3, 0, 1, -12}, {3, 0, 0, 0, 1, -12}, {3, 0, 4, 0, 0, -12},
            {3, 0, 3, 0, 0, -12}, {0, -1, 2, 0, 1, -12},
            {0, -1, 1, 0, 1, -13}, {0, 0, 1, -1, 1, -13}, {0, 6, 1, 0, 1, -13}, {0, 0, 1, 4, 1, -13}, {0, 5, 1, 0, 2, -13},
            {0, 0, 1, 3, 2, -13}, {0, 0, 1, 0, 5, -13}, {1, 0, 0, 0, 5, -13}, {0, 7, 1, 0, 0, -13}, {0, 0, 1, 5, 0, -13},
            {0, 0, 1, 0, -1, -13}, {0, max, 1, 0, max, -13}, {0, 1, 1, max, max, -13}, {0, max, 1, max, 1, -13},
            {0, 0, 1, 0, Integer.MIN_VALUE, -13}
        };
        for (int[] r : refused) {
            DUE.due("39 shift(" + r[0] + ", " + r[1] + ", " + r[2] + ", " + r[3] + ", " + r[4] + ")",
                x.shift(r[0], r[1], r[2], r[3], r[4]), r[5]);
        }
        holds(x, 0, 10, 11, 12, 13, 14, 15);
        holds(x, 1, 20, 21, 22, 23);
    }

    private static void kinds() {
        ThreeSnowballs x = new ThreeSnowballs();
        // By KIND (from the left) the KINDS that it is, or is under.
        int[][] under = {{0}, {0, 1}, {0, 2}, {0, 2, 3}, {0, 1, 4}, {0, 2, 3, 5}, {0, 6}, {0, 1, 4, 7}};
        for (int kind = 0; kind < 8; kind++) {
            x.body(kind);
            x.keep(kind % 6, kind);
            for (int k = 0; k < 8; k++) {
                boolean is = false;
                for (int u : under[kind]) {
                    is |= u == k;
                }
                DUE.due("40 kind " + kind + " taken for " + k, x.taken(kind % 6, k), is ? kind : -12);
            }
        }
        x.row(0, 0, 3);
        x.keep(1, -1);
        int[][] refused = {{-1, 0, BAD}, {6, 0, BAD}, {0, -1, BAD}, {0, 8, BAD}, {1, 8, BAD}, {0, 0, -12}, {1, 0, -11}};
        for (int[] r : refused) {
            DUE.due("40 taken(" + r[0] + ", " + r[1] + ")", x.taken(r[0], r[1]), r[2]);
        }
    }

    private static void counts() {
        ThreeSnowballs x = new ThreeSnowballs();
        DUE.due("41 count(-1)", x.count(-1), BAD);
        DUE.due("41 count(7)", x.count(7), BAD);
        DUE.due("41 count(MAX)", x.count(Integer.MAX_VALUE), BAD);
        x.player(12, 3);
        x.player(1, 3);
        x.player(1, 3);
        x.step(0);
        x.feed('h');
        x.feed('h');
        x.feed('h');
        x.feed('h');
        x.mend(0, 0, 1);
        x.mend(0, 0, 2);
        x.mend(0, 0, 3);
        x.mend(0, 0, 4);
        x.mend(0, 0, 5);
        for (int i = 0; i < 7; i++) {
            x.body(7);
        }
        x.act(6, 3, 0);
        int[] due = {3, 5, 1, 4, 5, 7, 14};
        for (int what = 0; what < 7; what++) {
            DUE.due("41 count(" + what + ")", x.count(what), due[what]);
        }
    }
}
