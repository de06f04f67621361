/** Players who throw snowballs in turn; the project's document says what each call answers. */
public final class ThreeSnowballs {
    public static final int BAD = -1, NOT = -2, FULL = -3, STATE = -5, VOID = -2000000000;

    private static final int NOTHING_THERE = -11, OTHER_KIND = -12, NO_PLACE = -13, SIZE_BELOW_0 = -14;
    private static final int FAULT_BASE = -100;

    private static final int MOST_PLAYERS = 4, SETS = 16, TWELVE = 12, WAYS = 6, MOST_THROWS = 9;
    private static final int STRONG = 0, WEAK = 1, AIR = 2, NEXT = 3, TOLD = 4, BEST = 5;
    private static final int HITS_OF = 0, WAY_OF = 1, TOLD_OF = 2, PLACE_OF = 3, IN_OF = 4;
    private static final int THROWN_AT_NOBODY = 9;
    private static final int MOST_THOUGHTS = 8, MOST_FIGHTS = 30, MOST_SEEN = 12;
    private static final int SHELVES = 6, MOST_ELEMENTS = 60, BYTES = 0, BOOLEANS = 4;

    private final Group group;
    private final LawText lawText;
    private final Odds odds;
    private final Deed deed;
    private final ToldFight toldFight;
    private final Changes changes;
    private final Throwers throwers;
    private final Shelf[] shelves;
    private final int[] waysBefore;

    public ThreeSnowballs() {
        group = new Group();
        lawText = new LawText();
        odds = new Odds(group, lawText);
        deed = new Deed(group);
        toldFight = new ToldFight(group, odds);
        changes = new Changes();
        throwers = new Throwers();
        shelves = new Shelf[SHELVES];
        for (int i = 0; i < SHELVES; i++) {
            shelves[i] = new Shelf();
        }
        waysBefore = new int[MOST_PLAYERS];
    }

    // ---- players

    public int player(int hits, int way) {
        if (!isWithin(hits, TWELVE) || !isWithin(way, WAYS - 1)) {
            return BAD;
        }
        return group.size >= MOST_PLAYERS ? FULL : come(hits, way);
    }

    public int players(int shelf, int i, int n) {
        if (!isWithin(shelf, SHELVES - 1) || n < 1 || n > MOST_PLAYERS) {
            return BAD;
        }
        Shelf from = shelves[shelf];
        if (from.sort != Shelf.NOTHING && from.sort != BYTES) {
            return OTHER_KIND;
        }
        // Any place may be told, below 0 too: nothing is left there. Counting what is left, no sum of i can wrap.
        int left = from.sort == BYTES && i >= 0 ? from.length - i : 0;
        int came = 0;
        while (came < n && 2 * came + 1 < left && group.size < MOST_PLAYERS) {
            long hits = from.elements[i + 2 * came];
            long way = from.elements[i + 2 * came + 1];
            if (hits < 0 || hits > TWELVE || way < 0 || way >= WAYS) {
                break;
            }
            come((int) hits, (int) way);
            came++;
        }
        return came;
    }

    public int mend(int player, int what, int v) {
        if (!group.has(player) || !isWithin(what, TOLD_OF) || !isWithin(v, greatest(what))) {
            return BAD;
        }
        int was = group.told(player, what);
        if (was != v) {
            changes.came(player, what, was, v);
            tell(player, what, v);
        }
        return was;
    }

    public int order(int digits) {
        if (!group.turnAs(digits)) {
            return BAD;
        }
        deed.startForNewGroup();
        return 1;
    }

    public int bell(int t) {
        if (!isWithin(t, MOST_THROWS)) {
            return BAD;
        }
        int was = group.bell;
        group.bell = t;
        deed.startForNewGroup();
        return was;
    }

    public int prize(int m, int v) {
        if (m < 1 || m > MOST_PLAYERS || !isWithin(v, 9)) {
            return BAD;
        }
        int was = group.prizes[m];
        group.prizes[m] = v;
        return was;
    }

    public int of(int player, int what) {
        if (!group.has(player) || !isWithin(what, IN_OF)) {
            return BAD;
        }
        if (what == IN_OF) {
            return (deed.set >> player) & 1;
        }
        return what == PLACE_OF ? group.places[player] : group.told(player, what);
    }

    public int feed(int letter) {
        return isWithin(letter, 255) ? lawText.take(letter) : BAD;
    }

    public int law() {
        int fault = lawText.readTape();
        if (fault != LawText.FAULTLESS) {
            return FAULT_BASE - fault;
        }
        odds.forgetNumbers();
        return 1;
    }

    // ---- what may happen

    public long worth(int player, int what, int part) {
        if (!group.has(player) || !isWithin(what, 2) || !isWithin(part, 1)) {
            return Long.MIN_VALUE;
        }
        odds.solve();
        if (what == 0) {
            return lowest(worthNow(player), odds.whole(), part);
        }
        odds.spread();
        long above = what == 1 ? odds.leftOf(player) : odds.ended[1 << player];
        return lowest(above, odds.whole(), part);
    }

    public long just(int set, int part) {
        if (set < -1 || set > group.all() || !isWithin(part, 1)) {
            return Long.MIN_VALUE;
        }
        odds.solve();
        odds.spread();
        return lowest(set == -1 ? odds.throwsInAll : odds.ended[set], odds.whole(), part);
    }

    public int aims(int player, int set, int n) {
        if (!group.has(player) || !isWithin(set, group.all()) || !isWithin(n, group.bell - 1)) {
            return BAD;
        }
        if (((set >> player) & 1) == 0) {
            return BAD;
        }
        odds.solve();
        return odds.aimAt(n, player, set);
    }

    public int begin(int player) {
        if (!group.has(player)) {
            return BAD;
        }
        odds.solve();
        int best = 0;
        // Turning the ORDER leaves who follows whom: only the one who begins changes.
        for (int i = 1; i < group.size; i++) {
            if (worthIfBegins(i, player) > worthIfBegins(best, player)) {
                best = i;
            }
        }
        return best;
    }

    public int fair() {
        if (group.size == 0) {
            return STATE;
        }
        odds.solve();
        int best = 0;
        for (int i = 1; i < group.size; i++) {
            if (spanIfBegins(i) < spanIfBegins(best)) {
                best = i;
            }
        }
        return best;
    }

    public int would(int player) {
        return group.has(player) ? wantedWay(player) : BAD;
    }

    public int rest() {
        int move = firstMove();
        return move == NOT ? NOT : move / WAYS;
    }

    public int settle(int player) {
        if (player != -1 && !group.has(player)) {
            return BAD;
        }
        System.arraycopy(group.ways, 0, waysBefore, 0, MOST_PLAYERS);
        int often = 0;
        int move = firstMove();
        while (move != NOT && often < MOST_THOUGHTS) {
            group.ways[move / WAYS] = move % WAYS;
            often++;
            move = firstMove();
        }
        int answer = move != NOT ? NOT : player == -1 ? often : group.ways[player];
        System.arraycopy(waysBefore, 0, group.ways, 0, MOST_PLAYERS);
        return answer;
    }

    public int even(int player) {
        if (!group.has(player)) {
            return BAD;
        }
        int own = group.hits[player];
        int nearest = 0;
        long least = Long.MAX_VALUE;
        for (int hits = 0; hits <= TWELVE; hits++) {
            tell(player, HITS_OF, hits);
            odds.solve();
            long distance = distanceFromMean(player);
            if (distance < least) {
                least = distance;
                nearest = hits;
            }
        }
        tell(player, HITS_OF, own);
        return nearest;
    }

    public int league(int ab) {
        if (ab < 0) {
            return BAD;
        }
        int one = ab / 10;
        int other = ab % 10;
        if (one == other || !group.has(one) || !group.has(other)) {
            return BAD;
        }
        odds.solve();
        return winner(one, other);
    }

    public int points(int player) {
        if (!group.has(player)) {
            return BAD;
        }
        odds.solve();
        int sum = 0;
        for (int other = 0; other < group.size; other++) {
            if (other != player) {
                int won = winner(player, other);
                sum += won == 1 ? 2 : won == 0 ? 1 : 0;
            }
        }
        return sum;
    }

    // ---- told, seen, drawn, in deed

    public int judge(int shelf, int what) {
        if (!isWithin(shelf, SHELVES - 1) || !isWithin(what, 1)) {
            return BAD;
        }
        Shelf row = shelves[shelf];
        if (row.sort != BYTES) {
            return row.sort == Shelf.NOTHING ? NOTHING_THERE : OTHER_KIND;
        }
        odds.solve();
        toldFight.look(row);
        return what == 0 ? toldFight.judged : toldFight.wrong;
    }

    public long chance(int shelf, int part) {
        if (!isWithin(shelf, SHELVES - 1) || !isWithin(part, 1) || shelves[shelf].sort != BYTES) {
            return Long.MIN_VALUE;
        }
        odds.solve();
        toldFight.look(shelves[shelf]);
        return lowest(toldFight.above, toldFight.below, part);
    }

    public int seen(int h, int n) {
        if (!isWithin(n, MOST_SEEN) || !isWithin(h, n)) {
            return BAD;
        }
        int likeliest = 0;
        long most = -1;
        for (int hits = 0; hits <= TWELVE; hits++) {
            long likely = power(hits, h) * power(TWELVE - hits, n - h);
            if (likely > most) {
                most = likely;
                likeliest = hits;
            }
        }
        return likeliest;
    }

    public int drawn(int seed, int n, int player) {
        if (n < 1 || n > MOST_FIGHTS || !group.has(player)) {
            return BAD;
        }
        odds.solve();
        int z = seed;
        int often = 0;
        for (int fight = 0; fight < n; fight++) {
            int set = group.all();
            int turn = group.first(set);
            for (int thrown = 0; thrown < group.bell && !group.isOver(set, thrown); thrown++) {
                int aim = odds.aimAt(thrown, turn, set);
                if (aim != NOT) {
                    z = z * 1103515245 + 12345;
                    if ((z >>> 8) % TWELVE < odds.numberAt(thrown, turn, aim, set)) {
                        set &= ~(1 << aim);
                    }
                }
                turn = group.after(turn, set);
            }
            often += (set >> player) & 1;
        }
        return often;
    }

    public int step(int number) {
        if (!isWithin(number, TWELVE - 1)) {
            return BAD;
        }
        if (group.isOver(deed.set, deed.thrown)) {
            return STATE;
        }
        odds.solve();
        int who = deed.turn;
        int aim = odds.aimAt(deed.thrown, who, deed.set);
        boolean hit = aim != NOT && number < odds.numberAt(deed.thrown, who, aim, deed.set);
        deed.throwAt(aim, hit);
        return 100 * who + 10 * (aim == NOT ? THROWN_AT_NOBODY : aim) + (hit ? 1 : 0);
    }

    public int anew() {
        int had = deed.thrown;
        deed.start();
        return had;
    }

    public int image() {
        deed.keepImage();
        return deed.thrown;
    }

    public int back() {
        return deed.takeImage() ? deed.thrown : STATE;
    }

    public int undo() {
        int at = changes.takeBack();
        if (at == NOT) {
            return STATE;
        }
        tell(changes.players[at], changes.whats[at], changes.before[at]);
        return changes.done;
    }

    public int redo() {
        int at = changes.takeAgain();
        if (at == NOT) {
            return STATE;
        }
        tell(changes.players[at], changes.whats[at], changes.behind[at]);
        return changes.kept - changes.done;
    }

    // ---- acts, shelves

    public int body(int kind) {
        return isWithin(kind, Throwers.KINDS - 1) ? throwers.come(kind) : BAD;
    }

    public int act(int body, int act, int x) {
        return throwers.doAct(body, act, x);
    }

    public int trace(int i) {
        return isWithin(i, Math.min(throwers.ran, Throwers.MOST_TRACED) - 1) ? throwers.traced[i] : BAD;
    }

    public int keep(int shelf, int body) {
        if (!isWithin(shelf, SHELVES - 1) || body < -1 || body >= throwers.size) {
            return BAD;
        }
        shelves[shelf].holdBody(body);
        return 1;
    }

    public int row(int shelf, int sort, int n) {
        if (!isWithin(shelf, SHELVES - 1) || !isWithin(sort, BOOLEANS) || n > MOST_ELEMENTS) {
            return BAD;
        }
        if (n < 0) {
            return SIZE_BELOW_0;
        }
        shelves[shelf].holdRow(sort, n);
        return 1;
    }

    public int put(int shelf, int i, long v) {
        int refusal = refusal(shelf, i);
        if (refusal != 0) {
            return refusal;
        }
        shelves[shelf].setElement(i, v);
        return 1;
    }

    public long element(int shelf, int i) {
        return refusal(shelf, i) != 0 ? Long.MIN_VALUE : shelves[shelf].elements[i];
    }

    public int shift(int shelf, int i, int other, int j, int n) {
        if (!isWithin(shelf, SHELVES - 1) || !isWithin(other, SHELVES - 1)) {
            return BAD;
        }
        Shelf from = shelves[shelf];
        Shelf to = shelves[other];
        if (from.sort == Shelf.NOTHING || to.sort == Shelf.NOTHING) {
            return NOTHING_THERE;
        }
        if (from.sort != to.sort || from.sort == Shelf.THROWER) {
            return OTHER_KIND;
        }
        if (n < 0 || i < 0 || j < 0 || i > from.length - n || j > to.length - n) {
            return NO_PLACE;
        }
        System.arraycopy(from.elements, i, to.elements, j, n);
        return n;
    }

    public int taken(int shelf, int k) {
        if (!isWithin(shelf, SHELVES - 1) || !isWithin(k, Throwers.KINDS - 1)) {
            return BAD;
        }
        Shelf held = shelves[shelf];
        if (held.sort == Shelf.NOTHING) {
            return NOTHING_THERE;
        }
        if (held.sort != Shelf.THROWER) {
            return OTHER_KIND;
        }
        int kind = throwers.kinds[held.body];
        return Throwers.isUnder(kind, k) ? kind : OTHER_KIND;
    }

    public int count(int what) {
        switch (what) {
            case 0: return group.size;
            case 1: return deed.set;
            case 2: return deed.thrown;
            case 3: return lawText.fed;
            case 4: return changes.done;
            case 5: return throwers.size;
            case 6: return throwers.ran;
            default: return BAD;
        }
    }

    // ---- what the calls share

    private static boolean isWithin(int v, int greatest) {
        return v >= 0 && v <= greatest;
    }

    private static int greatest(int what) {
        return what == HITS_OF ? TWELVE : what == WAY_OF ? WAYS - 1 : MOST_PLAYERS - 1;
    }

    private static long power(int base, int exponent) {
        long product = 1;
        for (int i = 0; i < exponent; i++) {
            product *= base;
        }
        return product;
    }

    private static long lowest(long above, long below, int part) {
        long a = above;
        long b = below;
        // Euclid's way takes some sixty rounds at most for numbers below 12 to the 12th.
        for (int i = 0; i < 100 && b != 0; i++) {
            long rest = a % b;
            a = b;
            b = rest;
        }
        long divisor = Math.max(a, 1);
        return (part == 0 ? above : below) / divisor;
    }

    private int come(int hits, int way) {
        int player = group.come(hits, way);
        odds.forgetNumbers();
        deed.startForNewGroup();
        return player;
    }

    private void tell(int player, int what, int v) {
        if (what == HITS_OF) {
            group.hits[player] = v;
            odds.forgetNumbers();
        } else if (what == WAY_OF) {
            group.ways[player] = v;
        } else {
            group.toldOnes[player] = v;
        }
    }

    private long worthNow(int player) {
        return odds.worthAtFirst(group.first(group.all()), group.all(), player);
    }

    private long worthIfBegins(int place, int player) {
        return odds.worthAtFirst(group.inOrder[place], group.all(), player);
    }

    private long spanIfBegins(int place) {
        long most = worthIfBegins(place, 0);
        long least = most;
        for (int player = 1; player < group.size; player++) {
            long worth = worthIfBegins(place, player);
            most = Math.max(most, worth);
            least = Math.min(least, worth);
        }
        return most - least;
    }

    /** How far a WORTH is from the mean of all, times the number of PLAYERS: so it stays whole. */
    private long distanceFromMean(int player) {
        long sum = 0;
        for (int other = 0; other < group.size; other++) {
            sum += worthNow(other);
        }
        return Math.abs(group.size * worthNow(player) - sum);
    }

    private int wantedWay(int player) {
        int own = group.ways[player];
        odds.solve();
        long most = worthNow(player);
        int wanted = own;
        for (int way = 0; way < WAYS; way++) {
            group.ways[player] = way;
            odds.solve();
            long worth = worthNow(player);
            if (worth > most) {
                most = worth;
                wanted = way;
            }
        }
        group.ways[player] = own;
        return wanted;
    }

    /** The first PLAYER who would have another WAY, times WAYS, and that WAY; NOT. */
    private int firstMove() {
        for (int player = 0; player < group.size; player++) {
            int wanted = wantedWay(player);
            if (wanted != group.ways[player]) {
                return player * WAYS + wanted;
            }
        }
        return NOT;
    }

    private int winner(int one, int other) {
        int set = 1 << one | 1 << other;
        int first = group.first(set);
        long ones = odds.worthAtFirst(first, set, one);
        long others = odds.worthAtFirst(first, set, other);
        return ones > others ? 1 : ones < others ? 2 : 0;
    }

    /** Why element i of a SHELF cannot be had; 0: it can. */
    private int refusal(int shelf, int i) {
        if (!isWithin(shelf, SHELVES - 1)) {
            return BAD;
        }
        Shelf held = shelves[shelf];
        if (held.sort == Shelf.NOTHING) {
            return NOTHING_THERE;
        }
        if (held.sort == Shelf.THROWER) {
            return OTHER_KIND;
        }
        return isWithin(i, held.length - 1) ? 0 : NO_PLACE;
    }

    /** The PLAYERS and what is told of how they fight. */
    private static final class Group {
        final int[] hits = new int[MOST_PLAYERS];
        final int[] ways = new int[MOST_PLAYERS];
        final int[] toldOnes = new int[MOST_PLAYERS];
        final int[] inOrder = new int[MOST_PLAYERS];
        final int[] places = new int[MOST_PLAYERS];
        final int[] prizes = {0, 9, 4, 2, 1};
        int size = 0;
        int bell = 6;
        // By player and set: kept, as the odds ask for it very often.
        private final int[] followers = new int[MOST_PLAYERS * SETS];

        boolean has(int player) {
            return player >= 0 && player < size;
        }

        int all() {
            return (1 << size) - 1;
        }

        int told(int player, int what) {
            return what == HITS_OF ? hits[player] : what == WAY_OF ? ways[player] : toldOnes[player];
        }

        int come(int itsHits, int itsWay) {
            int player = size;
            hits[player] = itsHits;
            ways[player] = itsWay;
            inOrder[player] = player;
            size = player + 1;
            findFollowers();
            return player;
        }

        /** Whether the digits tell an ORDER; it is that, then. */
        boolean turnAs(int digits) {
            int left = digits;
            int named = 0;
            for (int place = size - 1; place >= 0; place--) {
                int player = left % 10 - 1;
                left /= 10;
                if (!has(player) || (named >> player & 1) != 0) {
                    return false;
                }
                named |= 1 << player;
            }
            if (left != 0) {
                return false;
            }
            left = digits;
            for (int place = size - 1; place >= 0; place--) {
                inOrder[place] = left % 10 - 1;
                left /= 10;
            }
            findFollowers();
            return true;
        }

        /** The first in the ORDER who is in a set; 0, if none is. */
        int first(int set) {
            for (int place = 0; place < size; place++) {
                if ((set >> inOrder[place] & 1) != 0) {
                    return inOrder[place];
                }
            }
            return 0;
        }

        int after(int player, int set) {
            return followers[player * SETS + set];
        }

        boolean isOver(int set, int thrown) {
            return thrown >= bell || Integer.bitCount(set) < 2;
        }

        /** At whom a PLAYER throws by its WAY, if that is not BEST; NOT: at nobody. */
        int plainAim(int player, int set) {
            int others = set & ~(1 << player);
            switch (ways[player]) {
                case STRONG: return strongest(others, 1);
                case WEAK: return strongest(others, -1);
                case NEXT: return others == 0 ? NOT : after(player, others);
                case TOLD: return (others >> toldOnes[player] & 1) != 0 ? toldOnes[player] : NOT;
                case AIR:
                default: return NOT;
            }
        }

        /** Who of a set has the most HITS times a sign; NOT: nobody is in it. */
        private int strongest(int set, int sign) {
            int most = NOT;
            for (int player = 0; player < size; player++) {
                boolean isIn = (set >> player & 1) != 0;
                if (isIn && (most == NOT || sign * hits[player] > sign * hits[most])) {
                    most = player;
                }
            }
            return most;
        }

        private void findFollowers() {
            for (int place = 0; place < size; place++) {
                places[inOrder[place]] = place;
            }
            for (int player = 0; player < size; player++) {
                for (int set = 0; set < SETS; set++) {
                    followers[player * SETS + set] = followerOf(player, set);
                }
            }
        }

        private int followerOf(int player, int set) {
            int place = places[player];
            for (int i = 0; i < size; i++) {
                place = place + 1 < size ? place + 1 : 0;
                if ((set >> inOrder[place] & 1) != 0) {
                    return inOrder[place];
                }
            }
            return player;
        }
    }

    /**
     * THE TAPE and THE LAW. A LAW is kept as cells, operands ahead of their sign: a number from 0 on
     * is itself, all else is a sign's byte below 0; behind ? stands the cell at which the next LINE begins.
     */
    private static final class LawText {
        static final int FAULTLESS = -1;
        private static final int MOST_BYTES = 120, MOST_CELLS = 256, MOST_OPEN = 6, MOST_DIGITS = 4;
        private static final int OR = 0, AND = 1, COMPARE = 2, SUM = 3, OPERAND = 5;
        private static final int END = -1, MINUS_AHEAD = '~';

        int fed = 0;
        private final int[] tape = new int[MOST_BYTES];
        private int place;
        private final int[] draft = new int[MOST_CELLS];
        private int drafted;
        private final int[] cells = new int[MOST_CELLS];
        private int length = 0;
        private final int[] stack = new int[MOST_BYTES];
        private int top;

        int take(int letter) {
            if (fed >= MOST_BYTES) {
                return FULL;
            }
            tape[fed] = letter;
            fed++;
            return fed;
        }

        /** THE TAPE becomes THE LAW, if it is a TEXT: FAULTLESS; its FAULT. It is empty then. */
        int readTape() {
            place = 0;
            drafted = 0;
            boolean good = readLine();
            for (int i = 0; i < MOST_BYTES && good && next() == ';'; i++) {
                place++;
                good = readLine();
            }
            int fault = good && place == fed ? FAULTLESS : place;
            if (fault == FAULTLESS) {
                System.arraycopy(draft, 0, cells, 0, drafted);
                length = drafted;
            }
            fed = 0;
            return fault;
        }

        boolean isThere() {
            return length > 0;
        }

        /** In how many of twelve throws it hits. */
        int number(int h, int a, int t, int m, int n) {
            top = 0;
            for (int i = 0; i < length; i++) {
                int sign = -cells[i];
                if (sign <= 0) {
                    push(cells[i]);
                    continue;
                }
                switch (sign) {
                    case 'h': push(h); break;
                    case 'a': push(a); break;
                    case 't': push(t); break;
                    case 'm': push(m); break;
                    case 'n': push(n); break;
                    case '!': push(pop() == 0 ? 1 : 0); break;
                    case MINUS_AHEAD: push(-pop()); break;
                    case '?': i = Math.max(i, pop() != 0 ? i + 1 : lastOfLine(i)); break;
                    case ';': return Math.max(0, Math.min(TWELVE, pop()));
                    default:
                        int right = pop();
                        push(joined(sign, pop(), right));
                        break;
                }
            }
            return 0;
        }

        /** The last cell of the LINE whose ? is told. */
        private int lastOfLine(int ask) {
            return ask + 1 < length ? cells[ask + 1] - 1 : length;
        }

        private static int joined(int sign, int left, int right) {
            switch (sign) {
                case '|': return left != 0 || right != 0 ? 1 : 0;
                case '&': return left != 0 && right != 0 ? 1 : 0;
                case '<': return left < right ? 1 : 0;
                case '=': return left == right ? 1 : 0;
                case '>': return left > right ? 1 : 0;
                case '+': return left + right;
                case '-': return left - right;
                case '*': return left * right;
                case '/': return right == 0 ? 0 : left / right;
                default: return right == 0 ? 0 : left % right;
            }
        }

        private void push(int v) {
            if (top < MOST_BYTES) {
                stack[top] = v;
                top++;
            }
        }

        private int pop() {
            if (top <= 0) {
                return 0;
            }
            top--;
            return stack[top];
        }

        private int next() {
            return place < fed ? tape[place] : END;
        }

        private void write(int cell) {
            if (drafted < MOST_CELLS) {
                draft[drafted] = cell;
                drafted++;
            }
        }

        /** As all that reads: false, and place is the FAULT, if no TEXT goes on so. */
        private boolean readLine() {
            if (!readJoined(OR, 0)) {
                return false;
            }
            int ask = NOT;
            if (next() == '?') {
                place++;
                write(-'?');
                ask = drafted;
                write(0);
                if (!readJoined(OR, 0)) {
                    return false;
                }
            }
            write(-';');
            if (ask >= 0 && ask < MOST_CELLS) {
                draft[ask] = drafted;
            }
            return true;
        }

        /** What the signs of a level (OR the loosest) join; open: how many of ( ! - are. */
        private boolean readJoined(int level, int open) {
            if (level >= OPERAND) {
                return readOperand(open);
            }
            boolean good = readJoined(level + 1, open);
            for (int i = 0; i < MOST_BYTES && good && isSign(next(), level); i++) {
                int sign = next();
                place++;
                good = readJoined(level + 1, open);
                write(-sign);
                if (level == COMPARE) {
                    break;
                }
            }
            return good;
        }

        private static boolean isSign(int letter, int level) {
            switch (level) {
                case OR: return letter == '|';
                case AND: return letter == '&';
                case COMPARE: return letter == '<' || letter == '=' || letter == '>';
                case SUM: return letter == '+' || letter == '-';
                default: return letter == '*' || letter == '/' || letter == '%';
            }
        }

        private boolean readOperand(int open) {
            int letter = next();
            if (isDigit(letter)) {
                return readNumber();
            }
            if (letter == 'h' || letter == 'a' || letter == 't' || letter == 'm' || letter == 'n') {
                place++;
                write(-letter);
                return true;
            }
            if (open >= MOST_OPEN) {
                return false;
            }
            if (letter == '(') {
                place++;
                if (!readJoined(OR, open + 1) || next() != ')') {
                    return false;
                }
                place++;
                return true;
            }
            if (letter != '!' && letter != '-') {
                return false;
            }
            place++;
            boolean good = readOperand(open + 1);
            write(letter == '!' ? -'!' : -MINUS_AHEAD);
            return good;
        }

        private boolean readNumber() {
            int number = 0;
            for (int i = 0; i < MOST_DIGITS && isDigit(next()); i++) {
                number = number * 10 + next() - '0';
                place++;
            }
            write(number);
            return true;
        }

        private static boolean isDigit(int letter) {
            return letter >= '0' && letter <= '9';
        }
    }

    /**
     * What may happen from every situation: so many throws so far, whose turn it is, who is in.
     * All likelihoods and WORTHS are whole numbers, by the power of 12 for the throws still to come.
     */
    private static final class Odds {
        private static final long[] POWERS = {
            1L, 12L, 144L, 1728L, 20736L, 248832L, 2985984L, 35831808L, 429981696L, 5159780352L
        };
        private static final int SITUATIONS = MOST_PLAYERS * SETS, LEVELS = MOST_THROWS + 1;

        /** How likely just each set is in at the end, by whole(). */
        final long[] ended = new long[SETS];
        /** The mean number of throws, by whole(). */
        long throwsInAll;
        private final Group group;
        private final LawText law;
        private final long[] worths = new long[LEVELS * SITUATIONS * MOST_PLAYERS];
        private final int[] aims = new int[LEVELS * SITUATIONS];
        private final long[] likely = new long[LEVELS * SITUATIONS];
        // THE LAW's numbers by throws so far, how many are in, thrower, aim.
        private final int[] numbers = new int[LEVELS * (MOST_PLAYERS + 1) * MOST_PLAYERS * MOST_PLAYERS];
        private boolean hasNumbers = false;

        Odds(Group group, LawText law) {
            this.group = group;
            this.law = law;
        }

        void forgetNumbers() {
            hasNumbers = false;
        }

        /** The number that all likelihoods and WORTHS from the beginning on are parts of. */
        long whole() {
            return POWERS[group.bell];
        }

        long worthAtFirst(int turn, int set, int player) {
            return worths[situation(0, turn, set) * MOST_PLAYERS + player];
        }

        int aimAt(int thrown, int turn, int set) {
            return aims[situation(thrown, turn, set)];
        }

        /** In how many of twelve throws it hits; 0 for a throw into the air. */
        int numberAt(int thrown, int thrower, int aim, int set) {
            return aim == NOT ? 0 : numbers[numberPlace(thrown, Integer.bitCount(set), thrower, aim)];
        }

        long leftOf(int player) {
            long sum = 0;
            for (int set = 0; set < SETS; set++) {
                if ((set >> player & 1) != 0) {
                    sum += ended[set];
                }
            }
            return sum;
        }

        /** WORTHS and AIMS of all situations, from the last throw back to the first. */
        void solve() {
            if (!hasNumbers) {
                findNumbers();
            }
            for (int thrown = group.bell; thrown >= 0; thrown--) {
                for (int set = 1; set <= group.all(); set++) {
                    for (int turn = 0; turn < group.size; turn++) {
                        if ((set >> turn & 1) != 0) {
                            solveAt(thrown, turn, set);
                        }
                    }
                }
            }
        }

        /** How likely each end is, from the first throw on; solve() goes ahead. */
        void spread() {
            for (int i = 0; i < LEVELS * SITUATIONS; i++) {
                likely[i] = 0;
            }
            for (int set = 0; set < SETS; set++) {
                ended[set] = 0;
            }
            throwsInAll = 0;
            likely[situation(0, group.first(group.all()), group.all())] = 1;
            for (int thrown = 0; thrown <= group.bell; thrown++) {
                for (int turn = 0; turn < MOST_PLAYERS; turn++) {
                    for (int set = 0; set < SETS; set++) {
                        if (likely[situation(thrown, turn, set)] > 0) {
                            spreadFrom(thrown, turn, set);
                        }
                    }
                }
            }
        }

        private static int situation(int thrown, int turn, int set) {
            return (thrown * MOST_PLAYERS + turn) * SETS + set;
        }

        /** The situation behind a throw after which a set is in. */
        private int situationNext(int thrown, int turn, int set) {
            return situation(thrown + 1, group.after(turn, set), set);
        }

        private static int without(int set, int aim) {
            return aim == NOT ? set : set & ~(1 << aim);
        }

        private static int numberPlace(int thrown, int in, int thrower, int aim) {
            return ((thrown * (MOST_PLAYERS + 1) + in) * MOST_PLAYERS + thrower) * MOST_PLAYERS + aim;
        }

        private void findNumbers() {
            for (int thrown = 0; thrown < MOST_THROWS; thrown++) {
                for (int in = 2; in <= group.size; in++) {
                    for (int thrower = 0; thrower < group.size; thrower++) {
                        int hits = group.hits[thrower];
                        for (int aim = 0; aim < group.size; aim++) {
                            numbers[numberPlace(thrown, in, thrower, aim)] =
                                law.isThere() ? law.number(hits, thrower, aim, in, thrown) : hits;
                        }
                    }
                }
            }
            hasNumbers = true;
        }

        private void solveAt(int thrown, int turn, int set) {
            int here = situation(thrown, turn, set);
            if (group.isOver(set, thrown)) {
                aims[here] = NOT;
                long prize = group.prizes[Integer.bitCount(set)] * POWERS[group.bell - thrown];
                for (int player = 0; player < group.size; player++) {
                    worths[here * MOST_PLAYERS + player] = (set >> player & 1) != 0 ? prize : 0;
                }
                return;
            }
            int aim = group.ways[turn] == BEST ? bestAim(thrown, turn, set) : group.plainAim(turn, set);
            aims[here] = aim;
            int number = numberAt(thrown, turn, aim, set);
            int missed = situationNext(thrown, turn, set);
            int hit = situationNext(thrown, turn, without(set, aim));
            for (int player = 0; player < group.size; player++) {
                worths[here * MOST_PLAYERS + player] = mixed(number, hit, missed, player);
            }
        }

        private int bestAim(int thrown, int turn, int set) {
            int missed = situationNext(thrown, turn, set);
            int best = NOT;
            long most = mixed(0, missed, missed, turn);
            for (int aim = 0; aim < group.size; aim++) {
                if (aim != turn && (set >> aim & 1) != 0) {
                    int hit = situationNext(thrown, turn, without(set, aim));
                    long worth = mixed(numberAt(thrown, turn, aim, set), hit, missed, turn);
                    if (worth > most) {
                        most = worth;
                        best = aim;
                    }
                }
            }
            return best;
        }

        /** A WORTH, if in so many of twelve throws one situation follows, else the other. */
        private long mixed(int number, int hit, int missed, int player) {
            return number * worths[hit * MOST_PLAYERS + player]
                + (TWELVE - number) * worths[missed * MOST_PLAYERS + player];
        }

        private void spreadFrom(int thrown, int turn, int set) {
            long here = likely[situation(thrown, turn, set)];
            if (group.isOver(set, thrown)) {
                long part = here * POWERS[group.bell - thrown];
                ended[set] += part;
                throwsInAll += thrown * part;
                return;
            }
            int aim = aimAt(thrown, turn, set);
            int number = numberAt(thrown, turn, aim, set);
            likely[situationNext(thrown, turn, set)] += (TWELVE - number) * here;
            likely[situationNext(thrown, turn, without(set, aim))] += number * here;
        }
    }

    /** The FIGHT in deed and its IMAGE. */
    private static final class Deed {
        int set = 0;
        int thrown = 0;
        int turn = 0;
        private final Group group;
        private boolean hasImage = false;
        private int imageSet;
        private int imageThrown;
        private int imageTurn;

        Deed(Group group) {
            this.group = group;
        }

        void start() {
            set = group.all();
            thrown = 0;
            turn = group.first(set);
        }

        void startForNewGroup() {
            start();
            hasImage = false;
        }

        void throwAt(int aim, boolean hit) {
            if (hit) {
                set &= ~(1 << aim);
            }
            turn = group.after(turn, set);
            thrown++;
        }

        void keepImage() {
            hasImage = true;
            imageSet = set;
            imageThrown = thrown;
            imageTurn = turn;
        }

        /** Whether there was an IMAGE to go back to. */
        boolean takeImage() {
            if (hasImage) {
                set = imageSet;
                thrown = imageThrown;
                turn = imageTurn;
            }
            return hasImage;
        }
    }

    /** What there is to say of a FIGHT told in a ROW; the odds are solved ahead. */
    private static final class ToldFight {
        int judged;
        int wrong;
        long above;
        long below;
        private final Group group;
        private final Odds odds;
        private int set;
        private int turn;

        ToldFight(Group group, Odds odds) {
            this.group = group;
            this.odds = odds;
        }

        void look(Shelf row) {
            judged = NOT;
            wrong = NOT;
            above = 1;
            below = 1;
            set = group.all();
            turn = group.first(set);
            for (int two = 0; 2 * two < row.length && judged == NOT; two++) {
                if (2 * two + 1 < row.length && canBe(two, row.elements[2 * two], row.elements[2 * two + 1])) {
                    follow(two, (int) row.elements[2 * two], row.elements[2 * two + 1] == 1);
                } else {
                    judged = two;
                }
            }
            if (judged != NOT) {
                wrong = NOT;
                above = 0;
                below = 1;
            }
        }

        private boolean canBe(int thrown, long whom, long hit) {
            if (group.isOver(set, thrown) || hit < 0 || hit > 1) {
                return false;
            }
            if (whom == THROWN_AT_NOBODY) {
                return hit == 0;
            }
            if (whom < 0 || whom >= group.size || whom == turn || (set >> (int) whom & 1) == 0) {
                return false;
            }
            int number = odds.numberAt(thrown, turn, (int) whom, set);
            return hit == 1 ? number > 0 : number < TWELVE;
        }

        private void follow(int thrown, int whom, boolean hit) {
            int aim = whom == THROWN_AT_NOBODY ? NOT : whom;
            if (wrong == NOT && aim != odds.aimAt(thrown, turn, set)) {
                wrong = thrown;
            }
            if (aim != NOT) {
                int number = odds.numberAt(thrown, turn, aim, set);
                above *= hit ? number : TWELVE - number;
                below *= TWELVE;
            }
            if (hit) {
                set &= ~(1 << aim);
            }
            turn = group.after(turn, set);
        }
    }

    /** The CHANGES: the first done ones may be UNDONE, the kept ones behind them DONE AGAIN. */
    private static final class Changes {
        private static final int MOST = 40;
        final int[] players = new int[MOST];
        final int[] whats = new int[MOST];
        final int[] before = new int[MOST];
        final int[] behind = new int[MOST];
        int done = 0;
        int kept = 0;

        void came(int player, int what, int was, int becomes) {
            if (done >= MOST) {
                dropFirst(players);
                dropFirst(whats);
                dropFirst(before);
                dropFirst(behind);
                done = MOST - 1;
            }
            players[done] = player;
            whats[done] = what;
            before[done] = was;
            behind[done] = becomes;
            done++;
            kept = done;
        }

        /** The place of the change to be UNDONE; NOT: none. */
        int takeBack() {
            if (done == 0) {
                return NOT;
            }
            done--;
            return done;
        }

        /** The place of the change to be DONE AGAIN; NOT: none. */
        int takeAgain() {
            if (done >= kept) {
                return NOT;
            }
            done++;
            return done - 1;
        }

        private static void dropFirst(int[] row) {
            System.arraycopy(row, 1, row, 0, MOST - 1);
        }
    }

    /** The THROWERS kept as BODIES, and what their ACTS run. */
    private static final class Throwers {
        static final int KINDS = 8, MOST_TRACED = 24;
        private static final int MOST = 50, ACTS = 4, DEEPEST = 40;
        private static final int AIM = 0, THROW = 1, HIT = 2, TELL = 3;
        // The KIND above each; -1: none.
        private static final int[] ABOVE = {-1, 0, 0, 2, 1, 3, 0, 4};
        // By KIND and ACT the number of its own body; 0: none. What AIMS and TELLS have stands at THROWER.
        private static final int[] OWN = {
            1, 10, 11, 2,
            20, 0, 0, 0,
            0, 30, 0, 0,
            0, 41, 40, 0,
            0, 0, 50, 0,
            0, 0, 0, 60,
            70, 0, 0, 0,
            0, 80, 0, 81
        };

        final int[] kinds = new int[MOST];
        int size = 0;
        final int[] traced = new int[MOST_TRACED];
        int ran = 0;
        private int acting;

        int come(int kind) {
            if (size >= MOST) {
                return FULL;
            }
            kinds[size] = kind;
            size++;
            return size - 1;
        }

        static boolean isUnder(int kind, int top) {
            int k = kind;
            for (int i = 0; i < KINDS && k >= 0 && k != top; i++) {
                k = ABOVE[k];
            }
            return k == top;
        }

        int doAct(int body, int act, int x) {
            ran = 0;
            if (body < 0 || body >= size || act < 0 || act >= ACTS) {
                return 0;
            }
            acting = body;
            return own(act, x, 0);
        }

        private int own(int act, int x, int depth) {
            return run(kinds[acting], act, x, depth);
        }

        /** The body of a KIND, or of the next one above that has one. */
        private int run(int kind, int act, int x, int depth) {
            int k = kind;
            for (int i = 0; i < KINDS && k > 0 && OWN[k * ACTS + act] == 0; i++) {
                k = ABOVE[k];
            }
            if (k < 0 || depth > DEEPEST) {
                return 0;
            }
            int number = OWN[k * ACTS + act];
            if (ran < MOST_TRACED) {
                traced[ran] = number;
            }
            ran++;
            return runBody(number, ABOVE[k], x, depth + 1);
        }

        private int runBody(int number, int above, int x, int depth) {
            switch (number) {
                case 1: return x + acting;
                case 2: return own(THROW, x, depth) - own(HIT, 1, depth);
                case 10: return own(AIM, x, depth) * 2;
                case 11: return x ^ acting;
                case 20: return run(above, AIM, x, depth) + 3;
                case 30: return -run(above, THROW, x, depth);
                case 40: return run(above, HIT, x, depth) * 3;
                case 41: return run(above, THROW, x + 1, depth);
                case 50: return run(above, HIT, x, depth) - own(AIM, 2, depth);
                case 60: return run(above, TELL, x, depth) ^ 5;
                case 70: return run(above, AIM, x, depth) * 2;
                case 80: return run(above, THROW, x, depth) + own(HIT, 2, depth);
                default: return run(above, TELL, x, depth) - 1;
            }
        }
    }

    /** What a SHELF holds: nothing, a THROWER, or a ROW of a sort from BYTES to BOOLEANS. */
    private static final class Shelf {
        static final int NOTHING = -2, THROWER = -1;
        private static final int SHORTS = 1, INTS = 2, LONGS = 3;

        int sort = NOTHING;
        int body = -1;
        int length = 0;
        final long[] elements = new long[MOST_ELEMENTS];

        void holdBody(int number) {
            sort = number < 0 ? NOTHING : THROWER;
            body = number;
            length = 0;
        }

        void holdRow(int ofSort, int n) {
            sort = ofSort;
            body = -1;
            length = n;
            for (int i = 0; i < n; i++) {
                elements[i] = 0;
            }
        }

        void setElement(int i, long v) {
            elements[i] = lowestBits(v);
        }

        private long lowestBits(long v) {
            switch (sort) {
                case BYTES: return (byte) v;
                case SHORTS: return (short) v;
                case INTS: return (int) v;
                case LONGS: return v;
                default: return v != 0 ? 1 : 0;
            }
        }
    }
}
