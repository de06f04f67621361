import java.util.Arrays;

/** Promises 22 to 25: judge, chance, seen, drawn. */
public final class ToldTest {
    private static final Due DUE = new Due("ToldTest");
    private static final int BAD = -1, NOT = -2;

    public static void main(String[] args) {
        whatCanBe();
        whatCannotBe();
        numbersOfThrows();
        wholeRows();
        oneTwelfthAndEleven();
        whoWasWrong();
        chances();
        refused();
        seen();
        drawn();
        drawnOfSeveral();
        DUE.end();
    }

    private static void judged(ThreeSnowballs x, int want, int... bytes) {
        Tell.row(x, 0, bytes);
        DUE.due("22 judge(0, 0)", x.judge(0, 0), want);
        if (want != NOT) {
            DUE.due("22 WRONG: NOT, if JUDGED tells one", x.judge(0, 1), NOT);
            DUE.due("23 chance above", x.chance(0, 0), 0);
            DUE.due("23 chance below", x.chance(0, 1), 1);
        }
    }

    private static void whatCanBe() {
        ThreeSnowballs x = Tell.players(6, 3, 6, 3, 6, 3);
        judged(x, NOT);
        judged(x, NOT, 1, 0);
        judged(x, NOT, 1, 1);
        judged(x, NOT, 2, 1);
        judged(x, NOT, 9, 0);
        judged(x, NOT, 1, 1, 0, 0, 2, 0, 9, 0, 2, 1);
        judged(x, NOT, 9, 0, 9, 0, 9, 0, 9, 0, 9, 0, 9, 0);
        x.step(0);
        judged(x, NOT, 1, 0, 2, 0, 0, 0);
        x.order(321);
        judged(x, NOT, 1, 0, 2, 0, 1, 0);
        judged(x, 0, 2, 0);
    }

    private static void whatCannotBe() {
        ThreeSnowballs x = Tell.players(6, 3, 6, 3, 6, 3);
        judged(x, 0, 0, 0);
        judged(x, 1, 1, 0, 1, 0);
        judged(x, 0, 3, 0);
        judged(x, 0, 8, 0);
        judged(x, 0, 10, 0);
        judged(x, 0, -1, 0);
        judged(x, 0, -2, 0);
        judged(x, 0, -128, 0);
        judged(x, 0, 127, 1);
        judged(x, 1, 1, 1, 1, 0);
        judged(x, 0, 1, 2);
        judged(x, 0, 1, -1);
        judged(x, 0, 9, 1);
        judged(x, 0, 9, 2);
        judged(x, 2, 1, 0, 9, 0, 9, 1);
        judged(x, 0, 1);
        judged(x, 1, 1, 0, 2);
        // 0 hits 1, then 2 hits 0: nobody is to throw any more.
        judged(x, 2, 1, 1, 0, 1, 0, 0);
        judged(x, 2, 1, 1, 0, 1, 9, 0);
        judged(x, 2, 1, 1, 0, 1, 9);
        x.bell(2);
        judged(x, 2, 1, 0, 2, 0, 9, 0);
        judged(x, NOT, 1, 0, 2, 0);
        x.bell(0);
        judged(x, 0, 1, 0);
        judged(x, NOT);
        judged(Tell.players(), NOT);
        judged(Tell.players(), 0, 9, 0);
        judged(Tell.players(), 0, 9);
        judged(Tell.players(6, 3), 0, 9, 0);
    }

    private static void numbersOfThrows() {
        ThreeSnowballs x = Tell.players(0, 3, 12, 3, 6, 3);
        judged(x, 0, 1, 1);
        judged(x, NOT, 1, 0);
        judged(x, 1, 1, 0, 2, 0);
        judged(x, NOT, 1, 0, 2, 1);
        judged(x, NOT, 9, 0, 9, 0);
        Tell.law(x, "t=0?12;n=0?0;6");
        judged(x, 0, 1, 1);
        judged(x, 1, 2, 0, 0, 0);
        judged(x, NOT, 2, 0, 0, 1);
        judged(x, NOT, 9, 0, 2, 0);
    }

    /** ROWS of 60 bytes: longer than any FIGHT. */
    private static void wholeRows() {
        for (int t = 0; t <= 9; t++) {
            ThreeSnowballs x = Tell.players(6, 2, 6, 2, 6, 2, 6, 2);
            x.bell(t);
            int[] airs = new int[60];
            for (int i = 0; i < 60; i += 2) {
                airs[i] = 9;
            }
            judged(x, t, airs);
            judged(x, t, Arrays.copyOf(airs, 2 * t + 1));
            judged(x, NOT, Arrays.copyOf(airs, 2 * t));
            DUE.due("22 judge(0, 1)", x.judge(0, 1), NOT);
            chance(x, 1, 1, Arrays.copyOf(airs, 2 * t));
        }
    }

    private static void oneTwelfthAndEleven() {
        ThreeSnowballs x = Tell.players(1, 3, 11, 3);
        judged(x, NOT, 1, 1);
        judged(x, NOT, 1, 0, 0, 0);
        chance(x, 1, 12, 1, 1);
        chance(x, 11, 144, 1, 0, 0, 0);
        x.row(5, 0, 2);
        x.put(5, 0, 1);
        DUE.due("22 judge(5, 0)", x.judge(5, 0), NOT);
        DUE.due("23 chance(5, 1)", x.chance(5, 1), 12);
    }

    private static void wrong(ThreeSnowballs x, int want, int... bytes) {
        judged(x, NOT, bytes);
        DUE.due("22 judge(0, 1)", x.judge(0, 1), want);
    }

    private static void whoWasWrong() {
        ThreeSnowballs x = Tell.players(6, 3, 6, 2, 6, 0);
        wrong(x, NOT);
        wrong(x, NOT, 1, 0, 9, 0, 0, 0, 1, 1, 0, 1);
        wrong(x, 0, 2, 0, 9, 0);
        wrong(x, 0, 9, 0, 0, 1);
        wrong(x, 1, 1, 0, 0, 0);
        wrong(x, 2, 1, 0, 9, 0, 1, 0);
        wrong(x, 2, 1, 0, 9, 0, 9, 0, 9, 0);
        // Who is BEST throws otherwise the last time.
        x = Tell.players(6, 5, 6, 2);
        x.prize(2, 9);
        wrong(x, NOT, 9, 0);
        wrong(x, 0, 1, 0);
        x.prize(2, 8);
        wrong(x, 0, 9, 0);
        wrong(x, NOT, 1, 0);
    }

    private static void chance(ThreeSnowballs x, long above, long below, int... bytes) {
        Tell.row(x, 0, bytes);
        DUE.due("23 chance above", x.chance(0, 0), above);
        DUE.due("23 chance below", x.chance(0, 1), below);
    }

    private static void chances() {
        ThreeSnowballs x = Tell.players(5, 3, 3, 3, 12, 3);
        chance(x, 1, 1);
        chance(x, 5, 12, 1, 1);
        chance(x, 7, 12, 1, 0);
        chance(x, 7, 12, 2, 0);
        chance(x, 1, 1, 9, 0);
        chance(x, 7, 16, 1, 0, 0, 0);
        chance(x, 7, 48, 1, 0, 0, 1);
        chance(x, 5, 12, 1, 1, 0, 1);
        chance(x, 0, 1, 1, 1, 0, 0);
        x = Tell.players(1, 3, 1, 3);
        x.bell(9);
        chance(x, 2357947691L, 5159780352L, 1, 0, 0, 0, 1, 0, 0, 0, 1, 0, 0, 0, 1, 0, 0, 0, 1, 0);
    }

    private static void refused() {
        ThreeSnowballs x = Tell.players(5, 3, 3, 3);
        x.row(1, 1, 2);
        x.body(3);
        x.keep(2, 0);
        Tell.row(x, 0, 1, 0);
        int[][] wrong = {{-1, 0}, {6, 0}, {0, 2}, {0, -1}, {3, 2}};
        for (int[] w : wrong) {
            DUE.due("22 judge(" + w[0] + ", " + w[1] + ")", x.judge(w[0], w[1]), BAD);
            DUE.due("23 chance(" + w[0] + ", " + w[1] + ")", x.chance(w[0], w[1]), Long.MIN_VALUE);
        }
        int[] shelves = {1, 2, 3};
        int[] due = {-12, -12, -11};
        for (int i = 0; i < 3; i++) {
            DUE.due("22 judge(" + shelves[i] + ", 0)", x.judge(shelves[i], 0), due[i]);
            DUE.due("22 judge(" + shelves[i] + ", 1)", x.judge(shelves[i], 1), due[i]);
            DUE.due("23 chance(" + shelves[i] + ", 0)", x.chance(shelves[i], 0), Long.MIN_VALUE);
        }
    }

    private static void seen() {
        ThreeSnowballs x = new ThreeSnowballs();
        int[][] wrong = {{0, 13}, {0, -1}, {-1, 3}, {4, 3}, {13, 13}, {-1, -1}, {1, 0}};
        for (int[] w : wrong) {
            DUE.due("24 seen(" + w[0] + ", " + w[1] + ")", x.seen(w[0], w[1]), BAD);
        }
        DUE.due("24 seen(0, 0): all alike", x.seen(0, 0), 0);
        DUE.due("24 seen(0, 1)", x.seen(0, 1), 0);
        DUE.due("24 seen(1, 1)", x.seen(1, 1), 12);
        for (int h = 0; h <= 12; h++) {
            DUE.due("24 seen(" + h + ", 12)", x.seen(h, 12), h);
        }
        for (int h = 0; h <= 6; h++) {
            DUE.due("24 seen(" + h + ", 6)", x.seen(h, 6), 2 * h);
        }
        // 2.4 twelfths: 2 * 10^4 is 20000, 3 * 9^4 is 19683.
        DUE.due("24 seen(1, 5)", x.seen(1, 5), 2);
        // 4.8: 4^2 * 8^3 is 8192, 5^2 * 7^3 is 8575.
        DUE.due("24 seen(2, 5)", x.seen(2, 5), 5);
        DUE.due("24 seen(4, 5)", x.seen(4, 5), 10);
    }

    private static void drawn() {
        ThreeSnowballs x = Tell.players(5, 3, 0, 2);
        x.bell(1);
        for (int seed : new int[] {0, 1, -1, 77, Integer.MIN_VALUE, Integer.MAX_VALUE}) {
            for (int n : new int[] {1, 2, 30}) {
                DUE.due("25 drawn(" + seed + ", " + n + ", 1)", x.drawn(seed, n, 1), n - hitsDrawn(seed, n, 5));
                DUE.due("25 drawn(" + seed + ", " + n + ", 0)", x.drawn(seed, n, 0), n);
            }
        }
        x.mend(0, 0, 12);
        DUE.due("25 who hits always", x.drawn(5, 30, 1), 0);
        x.mend(0, 0, 0);
        DUE.due("25 who hits never", x.drawn(5, 30, 1), 30);
        x.mend(0, 0, 5);
        Tell.law(x, "9");
        DUE.due("25 THE LAW's number", x.drawn(3, 30, 1), 30 - hitsDrawn(3, 30, 9));
        int[][] wrong = {{0, 0, 0}, {0, 31, 0}, {0, -1, 0}, {0, 1, 2}, {0, 1, -1}};
        for (int[] w : wrong) {
            DUE.due("25 drawn(" + w[0] + ", " + w[1] + ", " + w[2] + ")", x.drawn(w[0], w[1], w[2]), BAD);
        }
    }

    private static int hitsDrawn(int seed, int n, int number) {
        long z = seed & 0xffffffffL;
        int hits = 0;
        for (int i = 0; i < n; i++) {
            z = (z * 1103515245L + 12345L) & 0xffffffffL;
            if (z / 256 % 12 < number) {
                hits++;
            }
        }
        return hits;
    }

    private static void drawnOfSeveral() {
        // 0 into the air draws nothing; 1 throws, and 0 is out or in.
        ThreeSnowballs x = Tell.players(12, 2, 4, 3);
        x.bell(2);
        DUE.due("25 the air draws nothing", x.drawn(11, 30, 0), 30 - hitsDrawn(11, 30, 4));
        x.step(0);
        x.step(0);
        DUE.due("25 all are in at first", x.drawn(11, 30, 0), 30 - hitsDrawn(11, 30, 4));
        // 0 hits 1, 2 hits 0: 2 is alone.
        x = Tell.players(12, 3, 12, 3, 12, 3);
        DUE.due("25 drawn(1, 30, 0)", x.drawn(1, 30, 0), 0);
        DUE.due("25 drawn(1, 30, 1)", x.drawn(1, 30, 1), 0);
        DUE.due("25 drawn(1, 30, 2)", x.drawn(1, 30, 2), 30);
        x.order(213);
        DUE.due("25 by the ORDER", x.drawn(1, 7, 2), 7);
        x.order(132);
        DUE.due("25 by the ORDER", x.drawn(1, 7, 1), 7);
        x.bell(1);
        DUE.due("25 till the BELL", x.drawn(1, 7, 0), 7);
        DUE.due("25 till the BELL", x.drawn(1, 7, 1), 7);
    }
}
