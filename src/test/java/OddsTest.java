/** Promises 11 to 21: what may happen. */
public final class OddsTest {
    private static final Due DUE = new Due("OddsTest");
    private static final int BAD = -1, NOT = -2, STATE = -5;

    public static void main(String[] args) {
        nobody();
        duel();
        strongAndWeak();
        nextAndTold();
        best();
        bestOfLikeOnes();
        justAndThrows();
        everyBell();
        wrongInputs();
        beginAndFair();
        wouldAndRest();
        settling();
        evens();
        leagueAndPoints();
        leagueOfFour();
        four();
        askedFirst();
        thoughtsChangeNothing();
        DUE.end();
    }

    private static void part(String call, long above, long below, long wantAbove, long wantBelow) {
        DUE.due(call + " above", above, wantAbove);
        DUE.due(call + " below", below, wantBelow);
    }

    private static void worth(ThreeSnowballs x, int player, int what, long above, long below) {
        part("11 worth(" + player + ", " + what + ")", x.worth(player, what, 0), x.worth(player, what, 1), above, below);
    }

    private static void just(ThreeSnowballs x, int set, long above, long below) {
        part("12 just(" + set + ")", x.just(set, 0), x.just(set, 1), above, below);
    }

    private static void nobody() {
        ThreeSnowballs x = Tell.players();
        just(x, 0, 1, 1);
        just(x, -1, 0, 1);
        DUE.due("15 fair()", x.fair(), STATE);
        DUE.due("17 rest()", x.rest(), NOT);
        DUE.due("18 settle(-1)", x.settle(-1), 0);
        x.player(3, 5);
        worth(x, 0, 0, 9, 1);
        worth(x, 0, 1, 1, 1);
        worth(x, 0, 2, 1, 1);
        just(x, 1, 1, 1);
        just(x, 0, 0, 1);
        just(x, -1, 0, 1);
        DUE.due("15 fair()", x.fair(), 0);
        DUE.due("21 points(0)", x.points(0), 0);
    }

    private static void duel() {
        ThreeSnowballs x = Tell.players(6, 3, 12, 3);
        worth(x, 0, 0, 9, 2);
        worth(x, 0, 1, 1, 2);
        worth(x, 0, 2, 1, 2);
        worth(x, 1, 0, 9, 2);
        just(x, 1, 1, 2);
        just(x, 2, 1, 2);
        just(x, 3, 0, 1);
        just(x, 0, 0, 1);
        just(x, -1, 3, 2);
        x.bell(1);
        worth(x, 0, 0, 13, 2);
        worth(x, 0, 1, 1, 1);
        worth(x, 0, 2, 1, 2);
        worth(x, 1, 0, 2, 1);
        worth(x, 1, 1, 1, 2);
        worth(x, 1, 2, 0, 1);
        just(x, 3, 1, 2);
        just(x, -1, 1, 1);
        x.bell(0);
        worth(x, 0, 0, 4, 1);
        just(x, -1, 0, 1);
        x = Tell.players(1, 3, 1, 3);
        x.bell(9);
        // Both miss nine times: 11 by 12 to the 9th.
        just(x, 3, 2357947691L, 5159780352L);
    }

    private static void strongAndWeak() {
        ThreeSnowballs x = Tell.players(12, 0, 12, 0, 12, 0);
        DUE.due("13 strong: of like HITS the least number", x.aims(0, 7, 0), 1);
        DUE.due("13 strong: but itself", x.aims(1, 7, 0), 0);
        DUE.due("13 strong: who is in", x.aims(1, 6, 0), 2);
        worth(x, 2, 2, 1, 1);
        just(x, -1, 2, 1);
        x = Tell.players(5, 1, 3, 1, 3, 1, 9, 0);
        DUE.due("13 weak: of like HITS the least number", x.aims(0, 15, 0), 1);
        DUE.due("13 weak: but itself", x.aims(1, 15, 0), 2);
        DUE.due("13 weak: who is in", x.aims(2, 13, 0), 0);
        DUE.due("13 strong: but itself", x.aims(3, 15, 0), 0);
        DUE.due("13 strong: who is in", x.aims(3, 14, 0), 1);
        DUE.due("13 the only one in", x.aims(3, 8, 0), NOT);
        DUE.due("13 the only one in", x.aims(0, 1, 0), NOT);
    }

    private static void nextAndTold() {
        ThreeSnowballs x = Tell.players(5, 3, 3, 3, 3, 4, 9, 2);
        x.order(4132);
        DUE.due("13 next", x.aims(0, 15, 0), 2);
        DUE.due("13 next who is in", x.aims(0, 11, 0), 1);
        DUE.due("13 next: round", x.aims(1, 15, 0), 3);
        DUE.due("13 next: round", x.aims(1, 3, 0), 0);
        DUE.due("13 next: only itself", x.aims(1, 2, 0), NOT);
        DUE.due("13 told 0 at first", x.aims(2, 15, 0), 0);
        DUE.due("13 told one is out", x.aims(2, 14, 0), NOT);
        x.mend(2, 2, 3);
        DUE.due("13 told 3", x.aims(2, 15, 5), 3);
        x.mend(2, 2, 2);
        DUE.due("13 told itself", x.aims(2, 15, 0), NOT);
        DUE.due("13 air", x.aims(3, 15, 0), NOT);
        x = Tell.players(5, 4, 3, 3);
        x.mend(0, 2, 3);
        DUE.due("13 told one who is not there", x.aims(0, 3, 0), NOT);
        x.mend(0, 2, 1);
        DUE.due("13 told 1", x.aims(0, 3, 0), 1);
    }

    private static void best() {
        // Weak, middling, sure: the weakest does best to let the others begin.
        ThreeSnowballs x = Tell.players(4, 5, 8, 5, 12, 5);
        x.bell(9);
        x.prize(3, 0);
        x.prize(2, 0);
        DUE.due("13 the weakest: into the air", x.aims(0, 7, 0), NOT);
        DUE.due("13 the middling: at the sure one", x.aims(1, 7, 0), 2);
        DUE.due("13 the sure one: at the middling", x.aims(2, 7, 0), 1);
        DUE.due("13 a duel", x.aims(0, 5, 0), 2);
        // The last throw, and one more left in is worth more than one less.
        x.prize(3, 9);
        DUE.due("13 the last throw: into the air", x.aims(1, 7, 8), NOT);
        DUE.due("13 the throw's number counts", x.aims(1, 3, 8), 0);
    }

    private static void bestOfLikeOnes() {
        ThreeSnowballs x = Tell.players(12, 5, 12, 2, 12, 2);
        x.bell(1);
        DUE.due("13 of like ones the least number", x.aims(0, 7, 0), 1);
        DUE.due("13 of like ones the least number", x.aims(0, 5, 0), 2);
        x.prize(3, 4);
        DUE.due("13 of like ones into the air", x.aims(0, 7, 0), NOT);
        worth(x, 0, 0, 4, 1);
        x.prize(3, 3);
        worth(x, 0, 0, 4, 1);
        just(x, 5, 1, 1);
        x.mend(0, 0, 0);
        DUE.due("13 who hits never: into the air", x.aims(0, 7, 0), NOT);
    }

    private static void justAndThrows() {
        ThreeSnowballs x = Tell.players(12, 0, 6, 0, 3, 2);
        // 0 hits 1, 2 throws into the air, 0 hits 2.
        just(x, -1, 3, 1);
        just(x, 1, 1, 1);
        x.order(213);
        // 1 hits 0 by a half: 2 and the air, then 1 on 2 again and again. Else 2, then 0 hits 1, ...
        x.bell(3);
        just(x, 3, 0, 1);
        just(x, 5, 1, 2);
        just(x, 2, 1, 4);
        just(x, 6, 1, 4);
        just(x, 7, 0, 1);
        just(x, 4, 0, 1);
        just(x, -1, 3, 1);
        x.bell(9);
        // A miss, 0 hits 1, air, 0 hits 2: four throws. Behind a hit: 2 into the air and 1 at it by turns.
        just(x, 1, 1, 2);
        just(x, 6, 1, 32);
        just(x, 2, 15, 32);
        // (4 + 3 / 2 + 5 / 4 + 7 / 8 + 9 / 8) / 2
        just(x, -1, 35, 8);
    }

    private static void everyBell() {
        long missed = 1;
        long whole = 1;
        for (int t = 0; t <= 9; t++) {
            ThreeSnowballs x = Tell.players(1, 3, 1, 3);
            x.bell(t);
            // Both miss each time; what else there is ends with one alone.
            just(x, 3, missed, whole);
            DUE.due("13 aims(0, 3, T)", x.aims(0, 3, t), BAD);
            DUE.due("13 aims(0, 3, T - 1)", x.aims(0, 3, t - 1), t == 0 ? BAD : 1);
            x = Tell.players(12, 2, 12, 2, 12, 2, 12, 2);
            x.bell(t);
            // Throws into the air are throws, too.
            just(x, -1, t, 1);
            just(x, 15, 1, 1);
            worth(x, 3, 0, 1, 1);
            worth(x, 3, 1, 1, 1);
            worth(x, 3, 2, 0, 1);
            missed *= 11;
            whole *= 12;
        }
    }

    private static void wrongInputs() {
        ThreeSnowballs x = Tell.players(5, 3, 3, 3);
        int[][] worths = {{2, 0, 0}, {-1, 0, 0}, {0, 3, 0}, {0, -1, 0}, {0, 0, 2}, {0, 0, -1}};
        for (int[] w : worths) {
            DUE.due("11 worth(" + w[0] + ", " + w[1] + ", " + w[2] + ")", x.worth(w[0], w[1], w[2]), Long.MIN_VALUE);
        }
        int[][] justs = {{4, 0}, {-2, 0}, {8, 0}, {0, 2}, {-1, -1}, {Integer.MAX_VALUE, 0}};
        for (int[] w : justs) {
            DUE.due("12 just(" + w[0] + ", " + w[1] + ")", x.just(w[0], w[1]), Long.MIN_VALUE);
        }
        int[][] aims = {{2, 7, 0}, {-1, 3, 0}, {0, 4, 0}, {0, 5, 0}, {0, -1, 0}, {0, 2, 0}, {0, 0, 0}, {0, 3, 6}, {0, 3, -1}};
        for (int[] w : aims) {
            DUE.due("13 aims(" + w[0] + ", " + w[1] + ", " + w[2] + ")", x.aims(w[0], w[1], w[2]), BAD);
        }
        DUE.due("13 aims(0, 3, 5): below T", x.aims(0, 3, 5), 1);
        for (int player : new int[] {-2, 2, 3, 4, Integer.MAX_VALUE, Integer.MIN_VALUE}) {
            DUE.due("14 begin(" + player + ")", x.begin(player), BAD);
            DUE.due("16 would(" + player + ")", x.would(player), BAD);
            DUE.due("18 settle(" + player + ")", x.settle(player), BAD);
            DUE.due("19 even(" + player + ")", x.even(player), BAD);
            DUE.due("21 points(" + player + ")", x.points(player), BAD);
        }
        DUE.due("14 begin(-1)", x.begin(-1), BAD);
        DUE.due("16 would(-1)", x.would(-1), BAD);
        DUE.due("19 even(-1)", x.even(-1), BAD);
        DUE.due("21 points(-1)", x.points(-1), BAD);
        for (int ab : new int[] {0, 11, 2, 20, 21, 12, -1, -10, 100, 101, Integer.MIN_VALUE, Integer.MAX_VALUE}) {
            DUE.due("20 league(" + ab + ")", x.league(ab), BAD);
        }
    }

    private static void beginAndFair() {
        ThreeSnowballs x = Tell.players(12, 3, 12, 3);
        DUE.due("14 begin(0)", x.begin(0), 0);
        DUE.due("14 begin(1)", x.begin(1), 1);
        DUE.due("15 fair(): of like ones the first", x.fair(), 0);
        x.order(21);
        DUE.due("14 begin(0) by places in the ORDER", x.begin(0), 1);
        DUE.due("14 begin(1) by places in the ORDER", x.begin(1), 0);
        x = Tell.players(12, 3, 6, 3);
        // As it is 9 and 0; if 1 begins, 9 by 2 each.
        DUE.due("15 fair()", x.fair(), 1);
        x = Tell.players(12, 2, 6, 2, 6, 2);
        DUE.due("14 begin(2): of like ones the first", x.begin(2), 0);
        DUE.due("15 fair(): of like ones the first", x.fair(), 0);
        x = Tell.players(12, 3, 12, 3, 12, 3);
        // 0 hits 1, 2 hits 0: the one ahead of who begins is alone.
        DUE.due("14 begin(0)", x.begin(0), 1);
        DUE.due("14 begin(1)", x.begin(1), 2);
        DUE.due("14 begin(2)", x.begin(2), 0);
    }

    private static void wouldAndRest() {
        ThreeSnowballs x = Tell.players(12, 2, 12, 2);
        // Told itself is into the air: 0, 1, 3 and 5 hit.
        DUE.due("16 would(0): else the least", x.would(0), 0);
        DUE.due("17 rest()", x.rest(), 0);
        x.mend(0, 1, 3);
        DUE.due("16 would(0): the one it has", x.would(0), 3);
        // Hit at once, 1 is out by any way.
        DUE.due("16 would(1)", x.would(1), 2);
        DUE.due("17 rest()", x.rest(), NOT);
        x.mend(0, 1, 4);
        DUE.due("16 would(0)", x.would(0), 0);
        x.mend(0, 2, 1);
        DUE.due("16 would(0): told 1", x.would(0), 4);
        x.prize(2, 9);
        DUE.due("16 would(0): alike", x.would(0), 4);
        x = Tell.players(0, 2, 12, 2);
        DUE.due("17 the first who would", x.rest(), 1);
        x = Tell.players(12, 4, 2, 2, 6, 1);
        x.mend(0, 2, 0);
        x.bell(2);
        // 0 throws into the air, 1 into the air, three are in: 2. At 2, then 1 alone with it: 4.
        DUE.due("16 would(0)", x.would(0), 0);
        DUE.due("16 would(1)", x.would(1), 0);
        DUE.due("16 would(2)", x.would(2), 1);
    }

    private static void settling() {
        ThreeSnowballs x = Tell.players(12, 2, 12, 2);
        DUE.due("18 settle(-1)", x.settle(-1), 1);
        DUE.due("18 settle(0)", x.settle(0), 0);
        DUE.due("18 settle(1)", x.settle(1), 2);
        DUE.due("18 in thought", x.of(0, 1), 2);
        x.mend(0, 1, 3);
        DUE.due("18 it is REST", x.settle(-1), 0);
        DUE.due("18 settle(0)", x.settle(0), 3);
        // From the page's runs: no REST within eight.
        x = Tell.players(5, 5, 8, 0, 3, 5, 11, 1);
        x.bell(9);
        DUE.due("18 settle(-1)", x.settle(-1), NOT);
        DUE.due("18 settle(0)", x.settle(0), NOT);
        DUE.due("18 settle(4)", x.settle(4), BAD);
        DUE.due("18 in thought", x.of(1, 1) * 10 + x.of(0, 1), 5);
        // REST behind the eighth, and behind a ninth that is not made any more.
        x = Tell.players(7, 4, 0, 0, 5, 1, 5, 2);
        x.bell(5);
        DUE.due("17 rest()", x.rest(), 0);
        DUE.due("18 settle(-1)", x.settle(-1), 8);
        int[] settled = {5, 0, 1, 2};
        for (int player = 0; player < 4; player++) {
            DUE.due("18 settle(" + player + ")", x.settle(player), settled[player]);
        }
        x = Tell.players(6, 0, 1, 2, 2, 3, 7, 2);
        x.bell(3);
        x.mend(1, 2, 1);
        x.mend(2, 2, 3);
        x.mend(3, 2, 2);
        DUE.due("18 settle(-1)", x.settle(-1), NOT);
        DUE.due("18 settle(3)", x.settle(3), NOT);
    }

    private static void evens() {
        ThreeSnowballs x = Tell.players(3, 3, 12, 3);
        x.bell(2);
        DUE.due("19 even(0): by half they are like", x.even(0), 6);
        DUE.due("19 in thought", x.of(0, 0), 3);
        x.mend(1, 0, 11);
        // 207 x less 1188 by 144: nearest to 0 with 6.
        DUE.due("19 even(0)", x.even(0), 6);
        x = Tell.players(3, 3, 12, 3);
        x.bell(1);
        x.prize(2, 0);
        x.mend(0, 1, 2);
        DUE.due("19 of like ones the fewest", x.even(0), 0);
        x = Tell.players(3, 2, 12, 3);
        x.order(21);
        x.bell(1);
        // By x twelfths 1 is alone and has 9, else both have 4: with 0 they are like.
        DUE.due("19 the least", x.even(1), 0);
        x = Tell.players(3, 3, 12, 3);
        DUE.due("10 the law", Tell.law(x, "a=0?h/2;12"), 1);
        x.bell(2);
        // THE LAW gives half the HITS: by half they are like.
        DUE.due("19 the most", x.even(0), 12);
        x = Tell.players(3, 3, 5, 3);
        DUE.due("10 the law", Tell.law(x, "a=0?(h>6)*12;12"), 1);
        // 9 above or 9 below: the size counts.
        DUE.due("19 of like sizes the fewest", x.even(0), 0);
        x = Tell.players(9, 0);
        DUE.due("19 one alone", x.even(0), 0);
        x = Tell.players(12, 2, 4, 2, 12, 0);
        x.bell(3);
        x.prize(3, 5);
        x.prize(2, 5);
        // 2 hits who has more: 0 with 4 or more, and 1 else; who is out has 0, the mean is 10 by 3.
        DUE.due("19 HITS tell who is strong", x.even(0), 0);
    }

    private static void leagueAndPoints() {
        ThreeSnowballs x = Tell.players(12, 3, 6, 3, 12, 3);
        DUE.due("20 league(1)", x.league(1), 1);
        DUE.due("20 league(10)", x.league(10), 2);
        DUE.due("20 league(2): by the ORDER", x.league(2), 1);
        DUE.due("20 league(20)", x.league(20), 2);
        DUE.due("20 league(12): by half they are like", x.league(12), 0);
        DUE.due("20 league(21)", x.league(21), 0);
        DUE.due("21 points(0)", x.points(0), 4);
        DUE.due("21 points(1)", x.points(1), 1);
        DUE.due("21 points(2)", x.points(2), 1);
        x.order(321);
        DUE.due("20 the ORDER counts", x.league(2), 2);
        DUE.due("21 points(2)", x.points(2), 4);
        x.step(0);
        x.step(0);
        DUE.due("20 not the FIGHT in deed", x.league(2), 2);
        x.bell(0);
        DUE.due("20 like", x.league(2), 0);
        DUE.due("21 points(1)", x.points(1), 2);
    }

    private static void leagueOfFour() {
        ThreeSnowballs x = Tell.players(12, 3, 12, 3, 12, 4, 12, 2);
        // Who begins of two is alone; 2 throws at 0 alone, 3 at nobody.
        int[][] due = {{BAD, 1, 1, 1}, {2, BAD, 1, 1}, {2, 2, BAD, 0}, {2, 2, 0, BAD}};
        int[] points = {6, 4, 1, 1};
        for (int one = 0; one < 4; one++) {
            for (int other = 0; other < 4; other++) {
                DUE.due("20 league(" + one + other + ")", x.league(10 * one + other), due[one][other]);
            }
            DUE.due("21 points(" + one + ")", x.points(one), points[one]);
        }
        for (int ab : new int[] {4, 14, 40, 41, 44, 34, 43, 9, 90, 101, 113, -1, -12}) {
            DUE.due("20 league(" + ab + ")", x.league(ab), BAD);
        }
        x.order(4321);
        DUE.due("20 league(20): 2 begins, at the one that it has TOLD itself", x.league(20), 1);
        DUE.due("20 league(21): told one who is out", x.league(21), 2);
    }

    private static void four() {
        ThreeSnowballs x = Tell.players(12, 3, 12, 3, 12, 3, 12, 3);
        // 0 hits 1, 2 hits 3, 0 hits 2: who begins is alone.
        for (int player = 0; player < 4; player++) {
            DUE.due("14 begin(" + player + ")", x.begin(player), player);
        }
        DUE.due("15 fair()", x.fair(), 0);
        x.order(2341);
        DUE.due("14 begin(0): by places in the ORDER", x.begin(0), 3);
        DUE.due("14 begin(1): by places in the ORDER", x.begin(1), 0);
        // From the page's runs.
        x = Tell.players(5, 5, 8, 0, 3, 5, 11, 1);
        x.bell(9);
        int[] begin = {0, 3, 1, 0};
        int[] would = {5, 3, 5, 1};
        int[] even = {2, 12, 11, 0};
        int[] points = {4, 4, 0, 4};
        for (int player = 0; player < 4; player++) {
            DUE.due("14 begin(" + player + ")", x.begin(player), begin[player]);
            DUE.due("16 would(" + player + ")", x.would(player), would[player]);
            DUE.due("19 even(" + player + ")", x.even(player), even[player]);
            DUE.due("21 points(" + player + ")", x.points(player), points[player]);
        }
        DUE.due("15 fair()", x.fair(), 0);
        DUE.due("17 rest()", x.rest(), 1);
        worth(x, 3, 0, 942559513L, 573308928L);
        DUE.due("12 just(15, 0)", x.just(15, 0), 343);
    }

    /** Each on an object that was asked nothing ahead, and behind each thing that is told. */
    private static void askedFirst() {
        DUE.due("14 begin(1)", Tell.players(12, 3, 12, 3).begin(1), 1);
        DUE.due("15 fair()", Tell.players(12, 3, 6, 3).fair(), 1);
        DUE.due("17 rest()", Tell.players(12, 2, 12, 2).rest(), 0);
        DUE.due("20 league(2)", Tell.players(12, 3, 6, 3, 12, 3).league(2), 1);
        DUE.due("21 points(0)", Tell.players(12, 3, 6, 3, 12, 3).points(0), 4);
        DUE.due("13 aims(0, 7, 0)", Tell.players(12, 0, 6, 3, 12, 3).aims(0, 7, 0), 2);
        ThreeSnowballs x = Tell.players(12, 3);
        worth(x, 0, 0, 9, 1);
        x.player(7, 3);
        worth(x, 1, 0, 0, 1);
        x.player(12, 3);
        worth(x, 2, 0, 9, 1);
        DUE.due("21 points(0)", x.points(0), 4);
        x.mend(0, 0, 0);
        DUE.due("21 points(0)", x.points(0), 0);
        x.undo();
        DUE.due("21 points(0)", x.points(0), 4);
        x.redo();
        DUE.due("21 points(0)", x.points(0), 0);
        DUE.due("10 the law", Tell.law(x, "a=0?12;h"), 1);
        DUE.due("21 points(0)", x.points(0), 4);
        x.order(321);
        DUE.due("21 points(0)", x.points(0), 0);
        x.bell(0);
        DUE.due("21 points(0)", x.points(0), 2);
    }

    private static void thoughtsChangeNothing() {
        ThreeSnowballs x = Tell.players(4, 5, 8, 1, 12, 2);
        x.step(0);
        long before = x.worth(0, 0, 0);
        for (int player = 0; player < 3; player++) {
            x.begin(player);
            x.would(player);
            x.settle(player);
            x.even(player);
            x.points(player);
        }
        x.fair();
        x.rest();
        DUE.due("14 to 21: the worth as it was", x.worth(0, 0, 0), before);
        DUE.due("14 to 21: no changes", x.count(4), 0);
        DUE.due("14 to 21: the fight as it was", x.count(2), 1);
        DUE.due("14 to 21: hits", x.of(0, 0) * 10000 + x.of(1, 0) * 100 + x.of(2, 0), 40812);
        DUE.due("14 to 21: ways", x.of(0, 1) * 100 + x.of(1, 1) * 10 + x.of(2, 1), 512);
        DUE.due("14 to 21: order", x.of(0, 3) * 100 + x.of(1, 3) * 10 + x.of(2, 3), 12);
    }
}
