/** Promises 9 and 10: THE TAPE and THE LAW. */
public final class LawTest {
    private static final Due DUE = new Due("LawTest");
    private static final int BAD = -1, FULL = -3;

    public static void main(String[] args) {
        feeding();
        texts();
        faults();
        outcomes();
        names();
        heldWithinTwelve();
        wholeTapes();
        aFaultLeavesTheLaw();
        aFaultIsNoLaw();
        hitsTellWhoIsStrong();
        theTapeOfEachByte();
        shortTexts();
        DUE.end();
    }

    private static void feeding() {
        ThreeSnowballs x = new ThreeSnowballs();
        DUE.due("9 feed(-1)", x.feed(-1), BAD);
        DUE.due("9 feed(256)", x.feed(256), BAD);
        DUE.due("9 feed(0)", x.feed(0), 1);
        DUE.due("9 feed(255)", x.feed(255), 2);
        DUE.due("41 count(3)", x.count(3), 2);
        DUE.due("10 a byte 0", x.law(), -100);
        DUE.due("10 THE TAPE is empty then", x.count(3), 0);
        for (int i = 1; i <= 120; i++) {
            DUE.due("9 feed, the " + i + "th", x.feed(i % 2 == 1 ? 'h' : '+'), i);
        }
        DUE.due("9 the 121st", x.feed('h'), FULL);
        DUE.due("9 BAD goes ahead of FULL", x.feed(256), BAD);
        DUE.due("10 it ends too early", x.law(), -220);
        DUE.due("9 feed behind it", x.feed('h'), 1);
        DUE.due("10 law()", x.law(), 1);
        DUE.due("10 THE TAPE is empty then", x.count(3), 0);
        for (int i = 0; i < 119; i++) {
            x.feed(i % 2 == 0 ? 'h' : ';');
        }
        DUE.due("10 many lines", x.law(), 1);
    }

    private static void texts() {
        String[] good = {
            "h", "0", "9999", "0000", "h?a", "h?a;t;m?n", "h|a|t", "h&a&t", "h<a", "h=a", "h>a", "h+a-t", "h*a/t%m",
            "!h", "-h", "!-!-!-h", "((((((h))))))", "(h<a)<t", "h<a|t<m", "--h--n", "h-(-1)", "h?h<a", "!(!(!(h)))+!h",
            "!!!!!!h*!!!!!!h", "((((((h))))))+((((((h))))))", "1?2;3", "h?!!!!!!h", "!!!!!!h?a;!!!!!!h", "h%0", "(h)", "((((((1))))))<!!!!!!1"
        };
        for (String text : good) {
            DUE.due("10 " + text, Tell.law(new ThreeSnowballs(), text), 1);
        }
    }

    private static void fault(String text, int place) {
        DUE.due("10 " + text, Tell.law(new ThreeSnowballs(), text), -100 - place);
    }

    private static void faults() {
        fault("", 0);
        fault(" h", 0);
        fault("h ", 1);
        fault("h +1", 1);
        fault("x", 0);
        fault("H", 0);
        fault(")", 0);
        fault("h)", 1);
        fault("(h", 2);
        fault("(", 1);
        fault("()", 1);
        fault("(h?a)", 2);
        fault("(h;a)", 2);
        fault("h?", 2);
        fault("h?a?t", 3);
        fault("?h", 0);
        fault("h?;", 2);
        fault("h;", 2);
        fault(";h", 0);
        fault("h;;h", 2);
        fault("h<a<t", 3);
        fault("h<a=t", 3);
        fault("h<", 2);
        fault("(h<a>t)", 4);
        fault("h+", 2);
        fault("h+*a", 2);
        fault("h*", 2);
        fault("h||a", 2);
        fault("h&&a", 2);
        fault("h==a", 2);
        fault("h|", 2);
        fault("h&", 2);
        fault("!", 1);
        fault("-", 1);
        fault("h!", 1);
        fault("12345", 4);
        fault("1234h", 4);
        fault("00001", 4);
        fault("1h", 1);
        fault("ha", 1);
        fault("h1", 1);
        fault("!!!!!!!h", 6);
        fault("-------h", 6);
        fault("((((((((h", 6);
        fault("(!-(!-!h", 6);
        fault("(!-(!-(h", 6);
        fault("((((((-h))))))", 6);
        fault("h+((((((h+(h", 10);
        fault("((((((h)))))", 12);
        fault("((((((h)))))))", 13);
        fault("h?!!!!!!!h", 8);
        fault("h?a;!!!!!!!h", 10);
        fault("h\u00e9", 1);
    }

    /** What a LAW gives, seen by the likelihood that one of two is out by one throw. */
    private static void number(String text, int twelfths) {
        ThreeSnowballs x = new ThreeSnowballs();
        x.player(7, 3);
        x.player(5, 3);
        x.bell(1);
        DUE.due("10 " + text, Tell.law(x, text), 1);
        long above = x.worth(0, 2, 0);
        long below = x.worth(0, 2, 1);
        DUE.due("10 " + text + " in twelfths", below == 0 ? -1 : above * 12 / below, twelfths);
        DUE.due("10 " + text + ": above times 12 by below is whole", below == 0 ? -1 : above * 12 % below, 0);
    }

    private static void outcomes() {
        number("h", 7);
        number("11", 11);
        number("0011", 11);
        number("2+3*2", 8);
        number("(2+3)*2", 10);
        number("9-4-3", 2);
        number("9-(4-3)", 8);
        number("40/4/2", 5);
        number("7%4*3", 9);
        number("0-7/2+12", 9);
        number("0-(0-7)%4", 3);
        number("-7/2+12", 9);
        number("-7%4+12", 9);
        number("5/0+3", 3);
        number("5%0+3", 3);
        number("(2<3)+(3<2)+(2<2)", 1);
        number("(2>3)+(3>2)+(2>2)", 1);
        number("(2=2)+(2=3)", 1);
        number("2+1<4", 1);
        number("(5|0)+(0|0)+(0|3)*4", 5);
        number("(5&0)+(0&0)+(2&4)*4", 4);
        number("1|0&0", 1);
        number("0&0|1", 1);
        number("(1|1&0)+2", 3);
        number("0=0&1", 1);
        number("5", 5);
        number("!5+!0*6", 6);
        number("!!5", 1);
        number("--5", 5);
        number("-!0+3", 2);
        number("2--3", 5);
        number("1?4;9", 4);
        number("0?4;9", 9);
        number("0-1?4;9", 4);
        number("0?4;0?5", 0);
        number("0?4;1?5;6", 5);
        number("0?1;0?2;0?3;8;1?9", 8);
        number("3;4", 3);
        number("9999*9999*9999*9999>0", 1);
        number("9999*9999*9999>0", 0);
        number("2048*1024*1024<0", 1);
        number("2048*1024*1024/-1<0", 1);
        number("2048*1024*1024%-1+5", 5);
    }

    private static void names() {
        number("a+1", 1);
        number("t+1", 2);
        number("m", 2);
        number("n+3", 3);
        ThreeSnowballs x = new ThreeSnowballs();
        for (int i = 0; i < 4; i++) {
            x.player(3 * i, 3);
        }
        DUE.due("10 12*(h=0&a=0&t=1&m=4&n=0 and so on)",
            Tell.law(x, "12*(h=0&a=0&t=1&m=4&n=0|h=6&a=2&t=3&m=3&n=1|h=0&a=0&t=2&m=2&n=2)"), 1);
        DUE.due("10 h, a, t, m, n of each throw", x.worth(0, 2, 0), 1);
        DUE.due("10 the mean of throws", x.just(-1, 0), 3);
        DUE.due("10 THE LAW is told a throw in deed", x.step(11), 11);
        DUE.due("10 THE LAW is told a throw in deed", x.step(11), 231);
        DUE.due("10 THE LAW is told a throw in deed", x.step(11), 21);
    }

    private static void heldWithinTwelve() {
        number("13", 12);
        number("9999", 12);
        number("-1", 0);
        number("0-9999", 0);
        number("12", 12);
    }

    /** TEXTS of 120 bytes, and what lacks at their end. */
    private static void wholeTapes() {
        number("11" + "+0".repeat(59), 11);
        number("0?1;".repeat(29) + "1?12", 12);
        number("0?1;".repeat(29) + "0?12", 0);
        number("((((((1))))))*1+".repeat(7) + "((!0)+0)", 8);
        number("!!!!(h)" + "*------1".repeat(13) + "*1*1*1*11", 11);
        fault("0?1;".repeat(30), 120);
        fault("h" + "+h".repeat(59) + "|", 120);
        fault("h+".repeat(57) + "((((((", 120);
        fault("h+".repeat(56) + "!!!!!!!h", 118);
        fault("h".repeat(120), 1);
        fault("h" + ";h".repeat(59) + ";", 120);
    }

    private static void aFaultLeavesTheLaw() {
        ThreeSnowballs x = new ThreeSnowballs();
        x.player(12, 3);
        x.player(12, 2);
        x.bell(1);
        DUE.due("10 law 0", Tell.law(x, "0"), 1);
        DUE.due("10 nobody is hit", x.just(3, 0), 1);
        DUE.due("10 a fault", Tell.law(x, "h+"), -102);
        DUE.due("10 THE LAW is as it was", x.just(3, 0), 1);
        DUE.due("10 another law", Tell.law(x, "h"), 1);
        DUE.due("10 it counts", x.just(3, 0), 0);
    }

    private static void aFaultIsNoLaw() {
        for (String fault : new String[] {"5;", "5;x", "0;5+", "1?5;", "5)", "5 ", "", "12345", "0?1;0?"}) {
            ThreeSnowballs x = Tell.players(12, 3, 12, 2);
            x.bell(1);
            DUE.due("10 " + fault + " is none", Tell.law(x, fault) <= -100 ? 1 : 0, 1);
            DUE.due("10 without a text h, behind " + fault, x.just(3, 0), 0);
            x.mend(0, 0, 0);
            DUE.due("10 without a text h, behind " + fault, x.just(3, 0), 1);
            DUE.due("10 law 12", Tell.law(x, "12"), 1);
            DUE.due("10 " + fault + " is none", Tell.law(x, fault) <= -100 ? 1 : 0, 1);
            DUE.due("10 THE LAW is as it was, behind " + fault, x.just(3, 0), 0);
        }
    }

    private static void hitsTellWhoIsStrong() {
        ThreeSnowballs x = Tell.players(2, 0, 9, 1, 5, 0);
        DUE.due("10 law 12-h", Tell.law(x, "12-h"), 1);
        DUE.due("13 the most HITS", x.aims(0, 7, 0), 1);
        DUE.due("13 the most HITS", x.aims(2, 7, 0), 1);
        DUE.due("13 the fewest HITS", x.aims(1, 7, 0), 0);
        DUE.due("26 THE LAW tells how it hits", x.step(9), 11);
    }

    private static void theTapeOfEachByte() {
        for (int letter = 0; letter <= 255; letter++) {
            ThreeSnowballs x = new ThreeSnowballs();
            boolean isOperand = letter >= '0' && letter <= '9' || "hatmn".indexOf(letter) >= 0;
            boolean goesOn = "(!-".indexOf(letter) >= 0;
            DUE.due("9 feed(" + letter + ")", x.feed(letter), 1);
            DUE.due("10 the byte " + letter, x.law(), isOperand ? 1 : goesOn ? -101 : -100);
            x.feed('7');
            x.feed(letter);
            boolean isDigit = letter >= '0' && letter <= '9';
            boolean joins = "|&<=>+-*/%?;".indexOf(letter) >= 0;
            DUE.due("10 the byte " + letter + " behind 7", x.law(), isDigit ? 1 : joins ? -102 : -101);
        }
    }

    /** Every text of up to four of these bytes: a FAULT or none, as the model finds by trying all that could follow. */
    private static void shortTexts() {
        String signs = "h1(!-+*<|?;)";
        for (int length = 0; length <= 4; length++) {
            int texts = (int) Math.pow(signs.length(), length);
            ThreeSnowballs x = new ThreeSnowballs();
            Model model = new Model();
            for (int text = 0; text < texts; text++) {
                StringBuilder told = new StringBuilder();
                for (int i = 0, left = text; i < length; i++, left /= signs.length()) {
                    told.append(signs.charAt(left % signs.length()));
                    model.feed(signs.charAt(left % signs.length()));
                }
                if (text % 100 == 0) {
                    x = new ThreeSnowballs();
                }
                DUE.due("10 " + told, Tell.law(x, told.toString()), model.law());
            }
        }
    }
}
