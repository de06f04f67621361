import java.math.BigInteger;
import java.util.ArrayList;
import java.util.HashMap;
import java.util.List;
import java.util.Map;

/**
 * A second answer to every call, worked out by other ways than the class's own: forward, by exact
 * fractions, turning the ORDER in deed, reading THE LAW by trying where its signs part it.
 */
final class Model {
    private static final int BAD = -1, NOT = -2, FULL = -3, STATE = -5;

    // ---- fractions

    record Part(BigInteger above, BigInteger below) {
        static final Part NONE = of(0, 1), ONE = of(1, 1);

        static Part of(long above, long below) {
            return new Part(BigInteger.valueOf(above), BigInteger.valueOf(below)).lowest();
        }

        Part lowest() {
            BigInteger divisor = above.gcd(below);
            return new Part(above.divide(divisor), below.divide(divisor));
        }

        Part plus(Part p) {
            return new Part(above.multiply(p.below).add(p.above.multiply(below)), below.multiply(p.below)).lowest();
        }

        Part times(Part p) {
            return new Part(above.multiply(p.above), below.multiply(p.below)).lowest();
        }

        Part less(Part p) {
            return plus(p.times(of(-1, 1)));
        }

        Part size() {
            return new Part(above.abs(), below);
        }

        int compare(Part p) {
            return above.multiply(p.below).compareTo(p.above.multiply(below));
        }

        long told(int part) {
            return (part == 0 ? above : below).longValueExact();
        }
    }

    // ---- what is kept

    private static final class Player {
        int hits, way, told;
    }

    private record Change(Player player, int what, int was, int v) { }

    private record Moment(int set, int turn, int thrown) { }

    private List<Player> players = new ArrayList<>();
    private List<Integer> order = new ArrayList<>();
    private int bell = 6;
    private final int[] prizes = {0, 9, 4, 2, 1};
    private StringBuilder tape = new StringBuilder();
    private String law = null;
    private Moment deed = new Moment(0, 0, 0);
    private Moment image = null;
    private final List<Change> done = new ArrayList<>();
    private final List<Change> undone = new ArrayList<>();
    private final List<Integer> bodies = new ArrayList<>();
    private final List<Integer> ran = new ArrayList<>();
    private final Object[] shelves = new Object[6];

    private record Body(int number) { }

    private static final class Row {
        final int sort;
        final long[] elements;

        Row(int sort, int n) {
            this.sort = sort;
            elements = new long[n];
        }
    }

    // ---- players

    private int all() {
        return (1 << players.size()) - 1;
    }

    private boolean has(int player) {
        return player >= 0 && player < players.size();
    }

    private static boolean in(int v, int from, int to) {
        return from <= v && v <= to;
    }

    private void fightAnew() {
        deed = new Moment(all(), order.isEmpty() ? 0 : order.get(0), 0);
    }

    private void groupTold() {
        fightAnew();
        image = null;
    }

    public int player(int hits, int way) {
        if (!in(hits, 0, 12) || !in(way, 0, 5)) return BAD;
        if (players.size() == 4) return FULL;
        Player p = new Player();
        p.hits = hits;
        p.way = way;
        order.add(players.size());
        players.add(p);
        groupTold();
        return players.size() - 1;
    }

    public int players(int shelf, int i, int n) {
        if (!in(shelf, 0, 5) || !in(n, 1, 4)) return BAD;
        if (shelves[shelf] instanceof Body) return -12;
        if (shelves[shelf] instanceof Row r && r.sort != 0) return -12;
        int came = 0;
        try {
            for (; came < n; came++) {
                long[] row = ((Row) shelves[shelf]).elements;
                int at = Math.addExact(i, 2 * came);
                if (player((int) row[at], (int) row[at + 1]) < 0) break;
            }
        } catch (NullPointerException | IndexOutOfBoundsException | ArithmeticException end) {
            return came;
        }
        return came;
    }

    private static int get(Player p, int what) {
        return what == 0 ? p.hits : what == 1 ? p.way : p.told;
    }

    private static void set(Player p, int what, int v) {
        if (what == 0) p.hits = v;
        if (what == 1) p.way = v;
        if (what == 2) p.told = v;
    }

    public int mend(int player, int what, int v) {
        if (!has(player) || !in(what, 0, 2) || !in(v, 0, new int[] {12, 5, 3}[what])) return BAD;
        Player p = players.get(player);
        int was = get(p, what);
        if (was == v) return was;
        set(p, what, v);
        done.add(new Change(p, what, was, v));
        if (done.size() > 40) done.remove(0);
        undone.clear();
        return was;
    }

    public int order(int digits) {
        String text = players.isEmpty() && digits == 0 ? "" : Integer.toString(digits);
        if (text.length() != players.size()) return BAD;
        List<Integer> told = new ArrayList<>();
        for (char c : text.toCharArray()) {
            int player = c - '1';
            if (!has(player) || told.contains(player)) return BAD;
            told.add(player);
        }
        order = told;
        groupTold();
        return 1;
    }

    public int bell(int t) {
        if (!in(t, 0, 9)) return BAD;
        int was = bell;
        bell = t;
        groupTold();
        return was;
    }

    public int prize(int m, int v) {
        if (!in(m, 1, 4) || !in(v, 0, 9)) return BAD;
        int was = prizes[m];
        prizes[m] = v;
        return was;
    }

    public int of(int player, int what) {
        if (!has(player) || !in(what, 0, 4)) return BAD;
        if (what == 3) return order.indexOf(player);
        if (what == 4) return (deed.set & 1 << player) == 0 ? 0 : 1;
        return get(players.get(player), what);
    }

    // ---- THE LAW

    public int feed(int letter) {
        if (!in(letter, 0, 255)) return BAD;
        if (tape.length() == 120) return FULL;
        tape.append((char) letter);
        return tape.length();
    }

    public int law() {
        String text = tape.toString();
        tape = new StringBuilder();
        for (int i = 0; i < text.length(); i++) {
            if (!goesOn(text.substring(0, i + 1))) return -100 - i;
        }
        if (!isText(text)) return -100 - text.length();
        law = text;
        return 1;
    }

    private static boolean goesOn(String start) {
        for (String operand : new String[] {"", "0"}) {
            for (int ends = 0; ends <= 6; ends++) {
                if (isText(start + operand + ")".repeat(ends))) return true;
            }
        }
        return false;
    }

    private static boolean isText(String text) {
        return new Reader(text).text() != null;
    }

    private interface Rule {
        int at(int[] names);
    }

    /** Reads a span by every sign that could part it: null, if none does. */
    private static final class Reader {
        private static final String[] SIGNS = {"|", "&", "<=>", "+-", "*/%"};
        private final String text;
        private final Map<String, Rule> known = new HashMap<>();

        Reader(String text) {
            this.text = text;
        }

        /** By lines: the condition (or null) and the outcome. */
        List<Rule[]> text() {
            List<Rule[]> lines = new ArrayList<>();
            int from = 0;
            for (String line : text.split(";", -1)) {
                int to = from + line.length();
                int ask = line.indexOf('?');
                Rule condition = ask < 0 ? null : span(0, from, from + ask, 0);
                Rule outcome = span(0, ask < 0 ? from : from + ask + 1, to, 0);
                if (outcome == null || ask >= 0 && condition == null) return null;
                lines.add(new Rule[] {condition, outcome});
                from = to + 1;
            }
            return lines;
        }

        private Rule span(int level, int from, int to, int open) {
            if (from >= to) return null;
            String key = level + "," + from + "," + to + "," + open;
            if (!known.containsKey(key)) known.put(key, level == 5 ? operand(from, to, open) : joined(level, from, to, open));
            return known.get(key);
        }

        private Rule joined(int level, int from, int to, int open) {
            for (int i = to - 1; i > from; i--) {
                char sign = text.charAt(i);
                if (SIGNS[level].indexOf(sign) >= 0) {
                    Rule left = span(level == 2 ? 3 : level, from, i, open);
                    Rule right = span(level + 1, i + 1, to, open);
                    if (left != null && right != null) return n -> join(sign, left.at(n), right.at(n));
                }
            }
            return span(level + 1, from, to, open);
        }

        private Rule operand(int from, int to, int open) {
            String own = text.substring(from, to);
            if (own.matches("[0-9]{1,4}")) return n -> Integer.parseInt(own);
            if (own.matches("[hatmn]")) return n -> n["hatmn".indexOf(own)];
            if (open == 6) return null;
            if (own.startsWith("(") && own.endsWith(")")) return span(0, from + 1, to - 1, open + 1);
            Rule inner = own.startsWith("!") || own.startsWith("-") ? span(5, from + 1, to, open + 1) : null;
            if (inner == null) return null;
            return own.startsWith("!") ? n -> inner.at(n) == 0 ? 1 : 0 : n -> -inner.at(n);
        }

        private static int join(char sign, int a, int b) {
            return switch (sign) {
                case '|' -> a != 0 || b != 0 ? 1 : 0;
                case '&' -> a != 0 && b != 0 ? 1 : 0;
                case '<' -> a < b ? 1 : 0;
                case '=' -> a == b ? 1 : 0;
                case '>' -> a > b ? 1 : 0;
                case '+' -> a + b;
                case '-' -> a - b;
                case '*' -> a * b;
                case '/' -> b == 0 ? 0 : a / b;
                default -> b == 0 ? 0 : a % b;
            };
        }
    }

    private String readLaw;
    private List<Rule[]> lines;

    private int number(int thrower, int aim, int set, int thrown) {
        int hits = players.get(thrower).hits;
        if (law == null) return hits;
        if (!law.equals(readLaw)) {
            readLaw = law;
            lines = new Reader(law).text();
        }
        int[] names = {hits, thrower, aim, Integer.bitCount(set), thrown};
        for (Rule[] line : lines) {
            if (line[0] == null || line[0].at(names) != 0) return Math.min(12, Math.max(0, line[1].at(names)));
        }
        return 0;
    }

    // ---- what may happen

    /** How likely each set is left, and the mean number of throws still to come. */
    private record Ends(Part[] sets, Part more) {
        Part worth(int player, int[] prizes) {
            Part sum = Part.NONE;
            for (int set = 0; set < 16; set++) {
                if ((set & 1 << player) != 0) sum = sum.plus(sets[set].times(Part.of(prizes[Integer.bitCount(set)], 1)));
            }
            return sum;
        }
    }

    private final Map<Moment, Ends> known = new HashMap<>();

    private Ends endsFrom(int set, int turn, int thrown) {
        Moment moment = new Moment(set, turn, thrown);
        Ends ends = known.get(moment);
        if (ends == null) {
            ends = isOver(moment) ? endsAt(set) : byAim(moment, aim(moment));
            known.put(moment, ends);
        }
        return ends;
    }

    private boolean isOver(Moment m) {
        return m.thrown >= bell || Integer.bitCount(m.set) <= 1;
    }

    private static Ends endsAt(int only) {
        Part[] sets = new Part[16];
        for (int set = 0; set < 16; set++) sets[set] = set == only ? Part.ONE : Part.NONE;
        return new Ends(sets, Part.NONE);
    }

    private int next(int player, int set) {
        int place = order.indexOf(player);
        do {
            place = (place + 1) % order.size();
        } while ((set & 1 << order.get(place)) == 0 && order.get(place) != player);
        return order.get(place);
    }

    private Ends byAim(Moment m, int aim) {
        Ends missed = endsFrom(m.set, next(m.turn, m.set), m.thrown + 1);
        int number = aim == NOT ? 0 : number(m.turn, aim, m.set, m.thrown);
        int left = aim == NOT ? m.set : m.set ^ 1 << aim;
        Ends hit = endsFrom(left, next(m.turn, left), m.thrown + 1);
        Part likely = Part.of(number, 12);
        Part rest = Part.ONE.less(likely);
        Part[] sets = new Part[16];
        for (int set = 0; set < 16; set++) sets[set] = likely.times(hit.sets[set]).plus(rest.times(missed.sets[set]));
        return new Ends(sets, Part.ONE.plus(likely.times(hit.more)).plus(rest.times(missed.more)));
    }

    private int aim(Moment m) {
        List<Integer> others = new ArrayList<>();
        for (int p = 0; p < players.size(); p++) {
            if (p != m.turn && (m.set & 1 << p) != 0) others.add(p);
        }
        Player own = players.get(m.turn);
        if (others.isEmpty() || own.way == 2) return NOT;
        if (own.way == 4) return others.contains(own.told) ? own.told : NOT;
        if (own.way == 3) return next(m.turn, m.set);
        int best = own.way == 5 ? NOT : others.get(0);
        for (int other : others) {
            boolean better = switch (own.way) {
                case 0 -> players.get(other).hits > players.get(best).hits;
                case 1 -> players.get(other).hits < players.get(best).hits;
                default -> byAim(m, other).worth(m.turn, prizes).compare(byAim(m, best).worth(m.turn, prizes)) > 0;
            };
            if (better) best = other;
        }
        return best;
    }

    private Ends endsOf(int set) {
        known.clear();
        int turn = 0;
        for (int i = order.size() - 1; i >= 0; i--) {
            if ((set & 1 << order.get(i)) != 0) turn = order.get(i);
        }
        return endsFrom(set, turn, 0);
    }

    private Part worthOf(int player) {
        return endsOf(all()).worth(player, prizes);
    }

    public long worth(int player, int what, int part) {
        if (!has(player) || !in(what, 0, 2) || !in(part, 0, 1)) return Long.MIN_VALUE;
        if (what == 0) return worthOf(player).told(part);
        Part sum = Part.NONE;
        for (int set = 0; set < 16; set++) {
            boolean counts = what == 2 ? set == 1 << player : (set & 1 << player) != 0;
            if (counts) sum = sum.plus(endsOf(all()).sets[set]);
        }
        return sum.told(part);
    }

    public long just(int set, int part) {
        if (set != -1 && !in(set, 0, all()) || !in(part, 0, 1)) return Long.MIN_VALUE;
        return (set == -1 ? endsOf(all()).more : endsOf(all()).sets[set]).told(part);
    }

    public int aims(int player, int set, int n) {
        if (!has(player) || !in(set, 0, all()) || (set & 1 << player) == 0 || !in(n, 0, bell - 1)) return BAD;
        known.clear();
        return aim(new Moment(set, player, n));
    }

    private List<Integer> turned(int by) {
        List<Integer> turned = new ArrayList<>();
        for (int i = 0; i < order.size(); i++) turned.add(order.get((i + by) % order.size()));
        return turned;
    }

    public int begin(int player) {
        if (!has(player)) return BAD;
        return leastOfOrders(() -> Part.NONE.less(worthOf(player)));
    }

    public int fair() {
        if (players.isEmpty()) return STATE;
        return leastOfOrders(() -> {
            Part most = worthOf(0);
            Part least = most;
            for (int p = 1; p < players.size(); p++) {
                Part worth = worthOf(p);
                if (worth.compare(most) > 0) most = worth;
                if (worth.compare(least) < 0) least = worth;
            }
            return most.less(least);
        });
    }

    private int leastOfOrders(java.util.function.Supplier<Part> measure) {
        List<Integer> own = order;
        int best = 0;
        Part least = null;
        for (int i = 0; i < own.size(); i++) {
            order = own;
            order = turned(i);
            Part here = measure.get();
            if (least == null || here.compare(least) < 0) {
                least = here;
                best = i;
            }
        }
        order = own;
        return best;
    }

    public int would(int player) {
        if (!has(player)) return BAD;
        Player p = players.get(player);
        int own = p.way;
        Part[] worths = new Part[6];
        Part most = Part.NONE;
        for (p.way = 0; p.way < 6; p.way++) {
            worths[p.way] = worthOf(player);
            if (worths[p.way].compare(most) > 0) most = worths[p.way];
        }
        p.way = own;
        if (worths[own].compare(most) == 0) return own;
        int way = 0;
        while (worths[way].compare(most) != 0) way++;
        return way;
    }

    public int rest() {
        for (int p = 0; p < players.size(); p++) {
            if (would(p) != players.get(p).way) return p;
        }
        return NOT;
    }

    public int settle(int player) {
        if (player != -1 && !has(player)) return BAD;
        int[] own = players.stream().mapToInt(p -> p.way).toArray();
        int often = 0;
        for (int who = rest(); who != NOT && often < 8; who = rest()) {
            players.get(who).way = would(who);
            often++;
        }
        int answer = rest() != NOT ? NOT : player == -1 ? often : players.get(player).way;
        for (int p = 0; p < own.length; p++) players.get(p).way = own[p];
        return answer;
    }

    public int even(int player) {
        if (!has(player)) return BAD;
        Player p = players.get(player);
        int own = p.hits;
        int best = 0;
        Part least = null;
        for (p.hits = 0; p.hits <= 12; p.hits++) {
            Part mean = Part.NONE;
            for (int other = 0; other < players.size(); other++) mean = mean.plus(worthOf(other));
            Part gap = worthOf(player).less(mean.times(Part.of(1, players.size()))).size();
            if (least == null || gap.compare(least) < 0) {
                least = gap;
                best = p.hits;
            }
        }
        p.hits = own;
        return best;
    }

    public int league(int ab) {
        int a = ab / 10;
        int b = ab % 10;
        if (ab < 0 || a == b || !has(a) || !has(b)) return BAD;
        Ends ends = endsOf(1 << a | 1 << b);
        int compared = ends.worth(a, prizes).compare(ends.worth(b, prizes));
        return compared > 0 ? 1 : compared < 0 ? 2 : 0;
    }

    public int points(int player) {
        if (!has(player)) return BAD;
        int points = 0;
        for (int other = 0; other < players.size(); other++) {
            if (other != player) points += new int[] {1, 2, 0}[league(10 * player + other)];
        }
        return points;
    }

    // ---- told, seen, drawn, in deed

    private Moment behind(Moment m, int aim, boolean hit) {
        int left = hit ? m.set ^ 1 << aim : m.set;
        return new Moment(left, next(m.turn, left), m.thrown + 1);
    }

    private Moment beginning() {
        return new Moment(all(), order.isEmpty() ? 0 : order.get(0), 0);
    }

    /** What is told: the first that cannot be, the first wrong one, and how likely it is. */
    private Object[] look(long[] row) {
        known.clear();
        Moment m = beginning();
        int wrong = NOT;
        Part likely = Part.ONE;
        for (int two = 0; two < (row.length + 1) / 2; two++) {
            Object[] cannot = {two, NOT, Part.NONE};
            if (isOver(m) || 2 * two + 1 == row.length) return cannot;
            long whom = row[2 * two];
            long hit = row[2 * two + 1];
            if (hit != 0 && hit != 1) return cannot;
            if (whom != 9 && !has((int) whom)) return cannot;
            int aim = whom == 9 ? NOT : (int) whom;
            Part chance = Part.ONE;
            if (aim == NOT) {
                if (hit == 1) return cannot;
            } else {
                if (aim == m.turn || (m.set & 1 << aim) == 0) return cannot;
                chance = Part.of(number(m.turn, aim, m.set, m.thrown), 12);
                if (hit == 0) chance = Part.ONE.less(chance);
                if (chance.compare(Part.NONE) == 0) return cannot;
            }
            likely = likely.times(chance);
            if (wrong == NOT && aim(m) != aim) wrong = two;
            m = behind(m, aim, hit == 1);
        }
        return new Object[] {NOT, wrong, likely};
    }

    public int judge(int shelf, int what) {
        if (!in(shelf, 0, 5) || !in(what, 0, 1)) return BAD;
        if (shelves[shelf] == null) return -11;
        if (!(shelves[shelf] instanceof Row r) || r.sort != 0) return -12;
        return (Integer) look(r.elements)[what];
    }

    public long chance(int shelf, int part) {
        if (!in(shelf, 0, 5) || !in(part, 0, 1)) return Long.MIN_VALUE;
        if (!(shelves[shelf] instanceof Row r) || r.sort != 0) return Long.MIN_VALUE;
        return ((Part) look(r.elements)[2]).told(part);
    }

    public int seen(int h, int n) {
        if (!in(n, 0, 12) || !in(h, 0, n)) return BAD;
        int best = 0;
        BigInteger most = BigInteger.valueOf(-1);
        for (int k = 0; k <= 12; k++) {
            BigInteger likely = BigInteger.valueOf(k).pow(h).multiply(BigInteger.valueOf(12 - k).pow(n - h));
            if (likely.compareTo(most) > 0) {
                most = likely;
                best = k;
            }
        }
        return best;
    }

    public int drawn(int seed, int n, int player) {
        if (!in(n, 1, 30) || !has(player)) return BAD;
        known.clear();
        int z = seed;
        int often = 0;
        for (int i = 0; i < n; i++) {
            Moment m = beginning();
            while (!isOver(m)) {
                int aim = aim(m);
                boolean hit = false;
                if (aim != NOT) {
                    z = (int) (z * 1103515245L + 12345L);
                    hit = ((z & 0xffffffffL) >> 8) % 12 < number(m.turn, aim, m.set, m.thrown);
                }
                m = behind(m, aim, hit);
            }
            if ((m.set & 1 << player) != 0) often++;
        }
        return often;
    }

    public int step(int number) {
        if (!in(number, 0, 11)) return BAD;
        if (isOver(deed)) return STATE;
        known.clear();
        int aim = aim(deed);
        boolean hit = aim != NOT && number < number(deed.turn, aim, deed.set, deed.thrown);
        int answer = 100 * deed.turn + 10 * (aim == NOT ? 9 : aim) + (hit ? 1 : 0);
        deed = behind(deed, aim, hit);
        return answer;
    }

    public int anew() {
        int had = deed.thrown;
        fightAnew();
        return had;
    }

    public int image() {
        image = deed;
        return deed.thrown;
    }

    public int back() {
        if (image == null) return STATE;
        deed = image;
        return deed.thrown;
    }

    public int undo() {
        if (done.isEmpty()) return STATE;
        Change last = done.remove(done.size() - 1);
        set(last.player, last.what, last.was);
        undone.add(last);
        return done.size();
    }

    public int redo() {
        if (undone.isEmpty()) return STATE;
        Change last = undone.remove(undone.size() - 1);
        set(last.player, last.what, last.v);
        done.add(last);
        return undone.size();
    }

    // ---- acts, shelves

    public int body(int kind) {
        if (!in(kind, 0, 7)) return BAD;
        if (bodies.size() == 50) return FULL;
        bodies.add(kind);
        return bodies.size() - 1;
    }

    interface Aims {
        void began(int body);

        int n();

        default int aimsBy(int x) { began(1); return x + n(); }
    }

    interface Tells {
        void began(int body);

        int throwsBy(int x);

        int hitsBy(int x);

        default int tellsBy(int x) { began(2); return throwsBy(x) - hitsBy(1); }
    }

    static class Thrower implements Aims, Tells {
        private final int n;
        private final List<Integer> ran;

        Thrower(int n, List<Integer> ran) { this.n = n; this.ran = ran; }

        public void began(int body) { ran.add(body); }

        public int n() { return n; }

        public int throwsBy(int x) { began(10); return aimsBy(x) * 2; }

        public int hitsBy(int x) { began(11); return x ^ n(); }
    }

    static class Strong extends Thrower {
        Strong(int n, List<Integer> ran) { super(n, ran); }

        public int aimsBy(int x) { began(20); return super.aimsBy(x) + 3; }
    }

    static class Air extends Thrower {
        Air(int n, List<Integer> ran) { super(n, ran); }

        public int throwsBy(int x) { began(30); return -super.throwsBy(x); }
    }

    static class Weak extends Air {
        Weak(int n, List<Integer> ran) { super(n, ran); }

        public int hitsBy(int x) { began(40); return super.hitsBy(x) * 3; }

        public int throwsBy(int x) { began(41); return super.throwsBy(x + 1); }
    }

    static class Best extends Strong {
        Best(int n, List<Integer> ran) { super(n, ran); }

        public int hitsBy(int x) { began(50); return super.hitsBy(x) - aimsBy(2); }
    }

    static class League extends Weak {
        League(int n, List<Integer> ran) { super(n, ran); }

        public int tellsBy(int x) { began(60); return super.tellsBy(x) ^ 5; }
    }

    static class Told extends Thrower {
        Told(int n, List<Integer> ran) { super(n, ran); }

        public int aimsBy(int x) { began(70); return super.aimsBy(x) * 2; }
    }

    static class Last extends Best {
        Last(int n, List<Integer> ran) { super(n, ran); }

        public int throwsBy(int x) { began(80); return super.throwsBy(x) + hitsBy(2); }

        public int tellsBy(int x) { began(81); return super.tellsBy(x) - 1; }
    }

    private Thrower made(int kind, int n) {
        return switch (kind) {
            case 0 -> new Thrower(n, ran);
            case 1 -> new Strong(n, ran);
            case 2 -> new Air(n, ran);
            case 3 -> new Weak(n, ran);
            case 4 -> new Best(n, ran);
            case 5 -> new League(n, ran);
            case 6 -> new Told(n, ran);
            default -> new Last(n, ran);
        };
    }

    public int act(int body, int act, int x) {
        ran.clear();
        if (!in(body, 0, bodies.size() - 1) || !in(act, 0, 3)) return 0;
        Thrower thrower = made(bodies.get(body), body);
        return switch (act) {
            case 0 -> thrower.aimsBy(x);
            case 1 -> thrower.throwsBy(x);
            case 2 -> thrower.hitsBy(x);
            default -> thrower.tellsBy(x);
        };
    }

    public int trace(int i) {
        return in(i, 0, Math.min(24, ran.size()) - 1) ? ran.get(i) : BAD;
    }

    public int keep(int shelf, int body) {
        if (!in(shelf, 0, 5) || !in(body, -1, bodies.size() - 1)) return BAD;
        shelves[shelf] = body == -1 ? null : new Body(body);
        return 1;
    }

    public int row(int shelf, int sort, int n) {
        if (!in(shelf, 0, 5) || !in(sort, 0, 4) || n > 60) return BAD;
        if (n < 0) return -14;
        shelves[shelf] = new Row(sort, n);
        return 1;
    }

    private int refused(int shelf, int i) {
        if (!in(shelf, 0, 5)) return BAD;
        if (shelves[shelf] == null) return -11;
        if (!(shelves[shelf] instanceof Row r)) return -12;
        return in(i, 0, r.elements.length - 1) ? 0 : -13;
    }

    public int put(int shelf, int i, long v) {
        if (refused(shelf, i) != 0) return refused(shelf, i);
        Row r = (Row) shelves[shelf];
        r.elements[i] = switch (r.sort) {
            case 0 -> v << 56 >> 56;
            case 1 -> v << 48 >> 48;
            case 2 -> v << 32 >> 32;
            case 3 -> v;
            default -> v == 0 ? 0 : 1;
        };
        return 1;
    }

    public long element(int shelf, int i) {
        return refused(shelf, i) != 0 ? Long.MIN_VALUE : ((Row) shelves[shelf]).elements[i];
    }

    public int shift(int shelf, int i, int other, int j, int n) {
        if (!in(shelf, 0, 5) || !in(other, 0, 5)) return BAD;
        if (shelves[shelf] == null || shelves[other] == null) return -11;
        if (!(shelves[shelf] instanceof Row a) || !(shelves[other] instanceof Row b) || a.sort != b.sort) return -12;
        long ends = Math.max((long) i + n - a.elements.length, (long) j + n - b.elements.length);
        if (i < 0 || j < 0 || n < 0 || ends > 0) return -13;
        long[] before = a.elements.clone();
        for (int k = 0; k < n; k++) b.elements[j + k] = before[i + k];
        return n;
    }

    public int taken(int shelf, int k) {
        if (!in(shelf, 0, 5) || !in(k, 0, 7)) return BAD;
        if (shelves[shelf] == null) return -11;
        if (!(shelves[shelf] instanceof Body b)) return -12;
        int kind = bodies.get(b.number);
        return made(k, 0).getClass().isInstance(made(kind, 0)) ? kind : -12;
    }

    public int count(int what) {
        return switch (what) {
            case 0 -> players.size();
            case 1 -> deed.set;
            case 2 -> deed.thrown;
            case 3 -> tape.length();
            case 4 -> done.size();
            case 5 -> bodies.size();
            case 6 -> ran.size();
            default -> BAD;
        };
    }
}
