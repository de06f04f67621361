/** Promises 26 to 31: step, anew, image, back, undo, redo. */
public final class DeedTest {
    private static final Due DUE = new Due("DeedTest");
    private static final int BAD = -1, STATE = -5;

    public static void main(String[] args) {
        steps();
        stepsTillTheBell();
        stepsByWaysOfNow();
        everyNumber();
        images();
        imagesKeepTheTurn();
        imagesThatGo();
        undone();
        doneAgain();
        fortyAreKept();
        fortyOfAllSorts();
        DUE.end();
    }

    private static void steps() {
        ThreeSnowballs x = Tell.players();
        DUE.due("26 nobody is there", x.step(0), STATE);
        DUE.due("26 BAD goes ahead", x.step(12), BAD);
        DUE.due("27 anew()", x.anew(), 0);
        x = Tell.players(6, 3);
        DUE.due("26 one alone", x.step(0), STATE);
        x = Tell.players(6, 3, 0, 2, 12, 3, 1, 3);
        for (int number : new int[] {-1, 12, Integer.MIN_VALUE, Integer.MAX_VALUE}) {
            DUE.due("26 step(" + number + ")", x.step(number), BAD);
        }
        DUE.due("26 a miss: 6 is not below 6", x.step(6), 10);
        DUE.due("26 into the air", x.step(0), 190);
        DUE.due("26 a hit: 11 is below 12", x.step(11), 231);
        DUE.due("41 count(1)", x.count(1), 7);
        DUE.due("41 count(2)", x.count(2), 3);
        DUE.due("26 3 is out: 0 again, a hit with 5", x.step(5), 11);
        DUE.due("26 who is out throws no more", x.step(0), 201);
        DUE.due("26 over: one is in", x.step(0), STATE);
        DUE.due("41 count(1)", x.count(1), 4);
        DUE.due("27 anew()", x.anew(), 5);
        DUE.due("41 count(1)", x.count(1), 15);
        DUE.due("41 count(2)", x.count(2), 0);
        DUE.due("26 the first again", x.step(0), 11);
    }

    private static void stepsTillTheBell() {
        ThreeSnowballs x = Tell.players(0, 3, 1, 3);
        x.bell(3);
        x.order(21);
        DUE.due("26 the ORDER's first", x.step(11), 100);
        DUE.due("26 hits never", x.step(0), 10);
        DUE.due("26 round", x.step(1), 100);
        DUE.due("26 over: the BELL", x.step(0), STATE);
        DUE.due("27 anew()", x.anew(), 3);
        DUE.due("27 anew() again", x.anew(), 0);
        DUE.due("26 a hit", x.step(0), 101);
        x.bell(0);
        DUE.due("26 over at once", x.step(0), STATE);
    }

    private static void stepsByWaysOfNow() {
        ThreeSnowballs x = Tell.players(12, 2, 12, 2, 12, 2);
        DUE.due("26 into the air", x.step(0), 90);
        x.mend(1, 1, 4);
        DUE.due("26 at the told one", x.step(0), 101);
        x.undo();
        x.mend(2, 1, 3);
        x.mend(2, 0, 0);
        DUE.due("26 with HITS of now", x.step(0), 210);
        DUE.due("26 its turn by the ORDER", x.step(0), 190);
        DUE.due("27 anew()", x.anew(), 4);
    }

    private static void everyNumber() {
        for (int hits = 0; hits <= 12; hits++) {
            for (int number = 0; number <= 11; number++) {
                ThreeSnowballs x = Tell.players(hits, 3, 0, 3);
                int due = number < hits ? 11 : 10;
                DUE.due("26 step(" + number + ") with HITS " + hits, x.step(number), due);
                DUE.due("41 who are in", x.count(1), due == 11 ? 1 : 3);
                DUE.due("8 of(1, 4)", x.of(1, 4), due == 11 ? 0 : 1);
            }
        }
    }

    private static void images() {
        ThreeSnowballs x = Tell.players(12, 3, 12, 3, 12, 3);
        DUE.due("29 there is none", x.back(), STATE);
        DUE.due("28 image()", x.image(), 0);
        DUE.due("26 step", x.step(0), 11);
        DUE.due("28 image() again", x.image(), 1);
        DUE.due("26 step", x.step(0), 201);
        DUE.due("29 back()", x.back(), 1);
        DUE.due("41 count(1)", x.count(1), 5);
        DUE.due("41 count(2)", x.count(2), 1);
        DUE.due("26 whose turn it was", x.step(0), 201);
        DUE.due("27 anew()", x.anew(), 2);
        DUE.due("29 back(): anew() leaves it", x.back(), 1);
        DUE.due("29 back() twice", x.back(), 1);
        x.mend(0, 0, 3);
        x.prize(1, 8);
        x.feed('h');
        x.law();
        DUE.due("29 back(): mend, prize and law leave it", x.back(), 1);
        DUE.due("29 HITS are not in it", x.of(0, 0), 3);
        Tell.law(x, "h+");
        DUE.due("29 back(): a FAULT leaves it", x.back(), 1);
        x.undo();
        DUE.due("29 back(): undo() leaves it", x.back(), 1);
        x.redo();
        DUE.due("29 back(): redo() leaves it", x.back(), 1);
        x.anew();
        DUE.due("28 image(): the latest counts", x.image(), 0);
        x.step(0);
        DUE.due("29 back()", x.back(), 0);
        DUE.due("41 count(1)", x.count(1), 7);
        x.step(0);
        DUE.due("27 anew()", x.anew(), 1);
        DUE.due("29 back()", x.back(), 0);
    }

    private static void imagesKeepTheTurn() {
        ThreeSnowballs x = new ThreeSnowballs();
        DUE.due("29 nobody, and none", x.back(), STATE);
        x = Tell.players(1, 3, 2, 3, 3, 3);
        x.step(11);
        DUE.due("28 image()", x.image(), 1);
        DUE.due("26 step", x.step(11), 120);
        DUE.due("29 back()", x.back(), 1);
        DUE.due("26 whose turn it was", x.step(11), 120);
        x.step(11);
        DUE.due("29 back()", x.back(), 1);
        DUE.due("26 whose turn it was", x.step(1), 121);
    }

    private static void imagesThatGo() {
        ThreeSnowballs x = Tell.players(12, 3, 12, 3);
        x.image();
        x.player(1, 1);
        DUE.due("29 a player came since", x.back(), STATE);
        x.image();
        x.order(123);
        DUE.due("29 an order was told since", x.back(), STATE);
        x.image();
        x.bell(6);
        DUE.due("29 a bell was told since", x.back(), STATE);
        x.row(0, 0, 2);
        x.image();
        x.order(122);
        x.bell(10);
        x.player(13, 1);
        x.players(1, 0, 1);
        DUE.due("29 what is refused tells nothing", x.back(), 0);
        x.players(0, 0, 1);
        DUE.due("29 a player from a row came since", x.back(), STATE);
        DUE.due("28 image()", x.image(), 0);
        DUE.due("29 back()", x.back(), 0);
    }

    private static void undone() {
        ThreeSnowballs x = Tell.players(1, 1, 2, 2);
        x.mend(0, 0, 12);
        x.mend(1, 1, 5);
        x.mend(1, 2, 3);
        x.mend(1, 2, 3);
        x.mend(1, 2, 4);
        DUE.due("41 count(4): the same number is none", x.count(4), 3);
        DUE.due("30 undo()", x.undo(), 2);
        DUE.due("30 the latest first", x.of(1, 2), 0);
        DUE.due("30 only that", x.of(1, 1), 5);
        DUE.due("30 undo()", x.undo(), 1);
        DUE.due("30 the WAY", x.of(1, 1), 2);
        DUE.due("30 undo()", x.undo(), 0);
        DUE.due("30 HITS", x.of(0, 0), 1);
        DUE.due("30 none", x.undo(), STATE);
        DUE.due("41 count(4)", x.count(4), 0);
        DUE.due("11 by the HITS of then", x.worth(0, 2, 1), aloneBelow(1, 1, 2, 2));
    }

    private static long aloneBelow(int... told) {
        return Tell.players(told).worth(0, 2, 1);
    }

    private static void doneAgain() {
        ThreeSnowballs x = Tell.players(1, 1, 2, 2);
        DUE.due("31 none", x.redo(), STATE);
        x.mend(0, 0, 12);
        x.mend(0, 1, 5);
        x.mend(0, 2, 3);
        DUE.due("31 none", x.redo(), STATE);
        x.undo();
        x.undo();
        x.undo();
        DUE.due("31 redo()", x.redo(), 2);
        DUE.due("31 HITS", x.of(0, 0), 12);
        DUE.due("31 not yet the WAY", x.of(0, 1), 1);
        x.mend(0, 0, 12);
        x.player(3, 3);
        x.settle(-1);
        DUE.due("31 the same number is no change, nor is a player", x.redo(), 1);
        DUE.due("31 the WAY", x.of(0, 1), 5);
        DUE.due("41 count(4)", x.count(4), 2);
        DUE.due("30 undo()", x.undo(), 1);
        DUE.due("31 redo()", x.redo(), 1);
        DUE.due("31 redo()", x.redo(), 0);
        DUE.due("31 whom TOLD", x.of(0, 2), 3);
        DUE.due("31 none", x.redo(), STATE);
        x.undo();
        x.undo();
        x.mend(1, 0, 7);
        DUE.due("31 another came behind", x.redo(), STATE);
        DUE.due("31 what came stays", x.of(1, 0), 7);
        DUE.due("41 count(4)", x.count(4), 2);
        DUE.due("30 undo()", x.undo(), 1);
        DUE.due("30 undo()", x.undo(), 0);
        DUE.due("30 HITS", x.of(0, 0), 1);
    }

    private static void fortyAreKept() {
        ThreeSnowballs x = Tell.players(0, 0);
        for (int i = 1; i <= 45; i++) {
            x.mend(0, 0, i % 13);
            DUE.due("41 count(4) behind " + i, x.count(4), Math.min(i, 40));
        }
        for (int left = 39; left >= 0; left--) {
            DUE.due("30 undo()", x.undo(), left);
            DUE.due("30 HITS", x.of(0, 0), (left + 5) % 13);
        }
        DUE.due("30 none", x.undo(), STATE);
        DUE.due("30 the first five stay", x.of(0, 0), 5);
        for (int left = 39; left >= 0; left--) {
            DUE.due("31 redo()", x.redo(), left);
            DUE.due("31 HITS", x.of(0, 0), (45 - left) % 13);
        }
        DUE.due("31 none", x.redo(), STATE);
    }

    private static void fortyOfAllSorts() {
        ThreeSnowballs x = Tell.players(0, 0, 0, 0);
        x.mend(0, 0, 12);
        for (int i = 0; i < 20; i++) {
            x.mend(1, 1, (i + 1) % 2 * 5);
            x.mend(0, 2, (i + 1) % 2 * 3);
        }
        for (int i = 19; i >= 0; i--) {
            x.undo();
            DUE.due("30 whom TOLD", x.of(0, 2), i % 2 * 3);
            DUE.due("30 not yet the WAY", x.of(1, 1), (i + 1) % 2 * 5);
            x.undo();
            DUE.due("30 the WAY", x.of(1, 1), i % 2 * 5);
        }
        DUE.due("30 none", x.undo(), STATE);
        DUE.due("30 the first stays", x.of(0, 0), 12);
    }
}
