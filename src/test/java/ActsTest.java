/** Promises 32 to 34: body, act, trace. */
public final class ActsTest {
    private static final Due DUE = new Due("ActsTest");
    private static final int BAD = -1, FULL = -3;
    private static final int[] XS = {0, 1, 5, -3, 1000000007, Integer.MAX_VALUE, Integer.MIN_VALUE};

    // By KIND, then by ACT: which bodies run.
    private static final int[][][] TRACES = {
        {{1}, {10, 1}, {11}, {2, 10, 1, 11}},
        {{20, 1}, {10, 20, 1}, {11}, {2, 10, 20, 1, 11}},
        {{1}, {30, 10, 1}, {11}, {2, 30, 10, 1, 11}},
        {{1}, {41, 30, 10, 1}, {40, 11}, {2, 41, 30, 10, 1, 40, 11}},
        {{20, 1}, {10, 20, 1}, {50, 11, 20, 1}, {2, 10, 20, 1, 50, 11, 20, 1}},
        {{1}, {41, 30, 10, 1}, {40, 11}, {60, 2, 41, 30, 10, 1, 40, 11}},
        {{70, 1}, {10, 70, 1}, {11}, {2, 10, 70, 1, 11}},
        {{20, 1}, {80, 10, 20, 1, 50, 11, 20, 1}, {50, 11, 20, 1},
            {81, 2, 80, 10, 20, 1, 50, 11, 20, 1, 50, 11, 20, 1}}
    };

    public static void main(String[] args) {
        bodies();
        for (int n = 0; n < 24; n++) {
            acts(n);
        }
        noSuchOne();
        DUE.end();
    }

    private static void bodies() {
        ThreeSnowballs x = new ThreeSnowballs();
        DUE.due("32 body(-1)", x.body(-1), BAD);
        DUE.due("32 body(8)", x.body(8), BAD);
        for (int i = 0; i < 50; i++) {
            DUE.due("32 body, the " + i + "th", x.body(i % 8), i);
            DUE.due("41 count(5)", x.count(5), i + 1);
        }
        DUE.due("32 a 51st", x.body(0), FULL);
        DUE.due("32 BAD goes ahead of FULL", x.body(8), BAD);
        DUE.due("33 the last one acts", x.act(49, 0, 1), 53);
    }

    /** What is due, worked out from the page's bodies put into one another. */
    private static int due(int kind, int act, int x, int n) {
        int aims = x + n;
        int strong = x + n + 3;
        int best = (x ^ n) - (2 + n + 3);
        switch (act) {
            case 0:
                return kind == 1 || kind == 4 || kind == 7 ? strong : kind == 6 ? aims * 2 : aims;
            case 1:
                switch (kind) {
                    case 1: case 4: return strong * 2;
                    case 2: return -(aims * 2);
                    case 3: case 5: return -((aims + 1) * 2);
                    case 6: return aims * 4;
                    case 7: return strong * 2 + (2 ^ n) - (n + 5);
                    default: return aims * 2;
                }
            case 2:
                return kind == 3 || kind == 5 ? (x ^ n) * 3 : kind == 4 || kind == 7 ? best : x ^ n;
            default:
                int told = due(kind, 1, x, n) - due(kind, 2, 1, n);
                return kind == 5 ? told ^ 5 : kind == 7 ? told - 1 : told;
        }
    }

    private static void acts(int n) {
        ThreeSnowballs x = new ThreeSnowballs();
        for (int i = 0; i < n; i++) {
            x.body(i % 8);
        }
        int kind = n % 8;
        x.body(kind);
        for (int act = 0; act < 4; act++) {
            for (int v : XS) {
                DUE.due("33 act(" + n + ", " + act + ", " + v + ")", x.act(n, act, v), due(kind, act, v, n));
            }
            int[] trace = TRACES[kind][act];
            DUE.due("41 count(6)", x.count(6), trace.length);
            for (int i = 0; i < trace.length; i++) {
                DUE.due("34 trace(" + i + ") of kind " + kind + ", act " + act, x.trace(i), trace[i]);
            }
            DUE.due("34 trace behind the last", x.trace(trace.length), BAD);
            DUE.due("34 trace(-1)", x.trace(-1), BAD);
            DUE.due("34 trace(24)", x.trace(24), BAD);
        }
    }

    private static void noSuchOne() {
        ThreeSnowballs x = new ThreeSnowballs();
        DUE.due("33 nobody", x.act(0, 0, 7), 0);
        DUE.due("34 no trace", x.trace(0), BAD);
        x.body(0);
        int[][] wrong = {{1, 0}, {-1, 0}, {0, 4}, {0, -1}, {Integer.MAX_VALUE, 0}};
        for (int[] w : wrong) {
            DUE.due("33 act(0, 1, 7)", x.act(0, 1, 7), 14);
            DUE.due("41 count(6)", x.count(6), 2);
            DUE.due("33 act(" + w[0] + ", " + w[1] + ", 7)", x.act(w[0], w[1], 7), 0);
            DUE.due("34 no trace then", x.trace(0), BAD);
            DUE.due("41 count(6)", x.count(6), 0);
        }
    }
}
