import java.util.Arrays;

/** Greatest rings of points that all fit one another, with bounds, proofs and covers. */
public final class FittingRings {
    public static final int NONE = -1, BAD = -2, STATE = -3, FULL = -4, MUCH = -5, NOTHING = -11, PLACE = -12, KIND = -13, SIZE = -14;

    private static final int MOST_POINTS = 40;
    private static final int MOST_FIGURE = 99;
    private static final int MOST_SEARCHED = 16;
    private static final int MOST_PARTED = 10;
    /** No net of 16 points has more rings that can't grow: 4 * 3 * 3 * 3 * 3 (Moon and Moser). */
    private static final int MOST_GROWN = 324;
    private static final int MOST_NODES = 200;
    /** Each level of a proof has a lesser set and leaves one node to come, so 42 are enough. */
    private static final int MOST_PENDING = 48;
    /** Forty points come to at most 40 * (2 * 99 + 39) together. */
    private static final int BEYOND_ALL = 1_000_000;
    private static final int MOST_BYTES = 160;
    private static final int MOST_CELLS = 60;
    private static final int MOST_NETS = 12;
    private static final int MOST_ODDS = 10;
    private static final int SHEETS = 4;
    private static final int HANDS = 4;
    private static final int KINDS = 6;
    private static final int RULES = 5;
    /** Answers that tell a place or a point as a fault begin here and go down. */
    private static final int FAULT = -100;

    private static final int KIND_POINT = 0, KIND_LOUD = 1, KIND_SHY = 2, KIND_PROUD = 3, KIND_MEEK = 4, KIND_LONE = 5;
    /** For each kind the one that it is under. */
    private static final int[] KIND_ABOVE = {-1, 0, 0, 1, 2, 0};

    private static final int RULE_COUNT = 0, RULE_COLOURS = 1, RULE_CORE = 2, RULE_SHRUNK = 3, RULE_BEST = 4;

    private static final int MISSING = -1, BYTES = 0, SHORTS = 1, INTS = 2;

    private static final int HOLDS_NOTHING = 0, HOLDS_POINT = 1, HOLDS_RULE = 2, HOLDS_SET = 3;

    private final Net net = new Net();
    private final Net kept = new Net();
    /** What is tried before it counts: a text that may have a fault, nets by lot. */
    private final Net draft = new Net();
    private boolean isKept = false;
    private final Judge judge = new Judge(net);
    private final Prover prover = new Prover(net, judge);
    private final Finder finder = new Finder(net);
    private final Tape tape = new Tape();
    private final Lot lot = new Lot();
    private final Sheet[] sheets = new Sheet[SHEETS];
    private final Hand[] hands = new Hand[HANDS];

    public FittingRings() {
        for (int i = 0; i < SHEETS; i++) {
            sheets[i] = new Sheet();
        }
        for (int i = 0; i < HANDS; i++) {
            hands[i] = new Hand();
        }
    }

    // ---- points

    public int point(int kind, int figure) {
        if (!isKind(kind) || !isFigure(figure)) {
            return BAD;
        }
        return net.add(kind, figure);
    }

    public int told(int point, int what) {
        if (!net.has(point)) {
            return BAD;
        }
        switch (what) {
            case 0:
                return net.kinds[point];
            case 1:
                return net.figures[point];
            case 2:
                return net.weights[point];
            case 3:
                return Long.bitCount(net.joins[point]);
            default:
                return BAD;
        }
    }

    public int set(int point, int figure) {
        if (!net.has(point) || !isFigure(figure)) {
            return BAD;
        }
        int before = net.figures[point];
        net.figures[point] = figure;
        net.weigh(point);
        return before;
    }

    public int turns(int point, int kind) {
        if (!net.has(point) || !isKind(kind)) {
            return BAD;
        }
        int before = net.kinds[point];
        net.kinds[point] = kind;
        net.weigh(point);
        return before;
    }

    public int join(int a, int b, int on) {
        if (!net.has(a) || !net.has(b) || a == b || !isBit(on)) {
            return BAD;
        }
        int before = net.isTied(a, b) ? 1 : 0;
        net.tie(a, b, on == 1);
        return before;
    }

    public int mesh(long w, int on) {
        if (!net.spans(w) || !isBit(on)) {
            return BAD;
        }
        int before = net.ties();
        net.tieAll(w, on == 1);
        return Math.abs(net.ties() - before);
    }

    public long near(int side, int point, long w) {
        if (!isBit(side) || !net.has(point) || !net.spans(w)) {
            return BAD;
        }
        return net.fitting(side, point, w);
    }

    public int measure(int measure, long w) {
        if (!isBit(measure) || !net.spans(w)) {
            return BAD;
        }
        return net.worth(measure, w);
    }

    public int isRing(int side, long w) {
        if (!isSideAndSet(side, w)) {
            return BAD;
        }
        return net.allFit(side, w) ? 1 : 0;
    }

    // ---- orders, classes, rules

    public int order(int side, long w, int k) {
        if (!isSideAndSet(side, w)) {
            return BAD;
        }
        Ranking ranking = judge.ranked(side, w);
        if (k == -1) {
            return ranking.depth;
        }
        return k >= 0 && k < ranking.length ? ranking.row[k] : PLACE;
    }

    public long classes(int side, long w, int k) {
        if (!isSideAndSet(side, w)) {
            return BAD;
        }
        Ranking ranking = judge.grouped(side, w);
        if (k == -1) {
            return ranking.groupCount;
        }
        return k >= 0 && k < ranking.groupCount ? ranking.groups[k] : PLACE;
    }

    public long taken(int side, long w) {
        if (!isSideAndSet(side, w)) {
            return BAD;
        }
        return judge.ranked(side, w).greedyRing(net, side);
    }

    public long left(int side, int measure, long w) {
        if (!isAsked(side, measure, w)) {
            return BAD;
        }
        long ring = judge.ranked(side, w).greedyRing(net, side);
        return judge.withoutBare(side, measure, w, net.worth(measure, ring));
    }

    public int bound(int rule, int side, int measure, long w) {
        if (!isRule(rule) || !isAsked(side, measure, w)) {
            return BAD;
        }
        return judge.most(rule, side, measure, w);
    }

    public long core(int side, int f, long w) {
        if (!isSideAndSet(side, w) || f < 0 || f >= MOST_POINTS) {
            return BAD;
        }
        return judge.withoutBare(side, 0, w, f);
    }

    // ---- the greatest, in thought

    public long greatest(int side, int measure, long w) {
        if (!isAsked(side, measure, w)) {
            return BAD;
        }
        if (Long.bitCount(w) > MOST_SEARCHED) {
            return MUCH;
        }
        finder.gather(net, side, w);
        return finder.firstOf(measure, finder.mostWorth(measure));
    }

    public long grown(int side, long w, int k) {
        if (!isSideAndSet(side, w)) {
            return BAD;
        }
        if (Long.bitCount(w) > MOST_SEARCHED) {
            return MUCH;
        }
        finder.gather(net, side, w);
        if (k == -1) {
            return finder.found;
        }
        return k >= 0 && k < finder.found ? finder.rings[k] : PLACE;
    }

    public long all(int side, int measure, long w, int what) {
        if (!isAsked(side, measure, w) || what < 0 || what > 2) {
            return BAD;
        }
        if (Long.bitCount(w) > MOST_SEARCHED) {
            return MUCH;
        }
        finder.gather(net, side, w);
        int most = finder.mostWorth(measure);
        if (what == 0) {
            return finder.inEach(measure, most, w);
        }
        return what == 1 ? finder.inAny(measure, most) : finder.howMany(measure, most);
    }

    public int turning(int side, int measure, long w, int more) {
        if (!isAsked(side, measure, w) || !isBit(more)) {
            return BAD;
        }
        if (Long.bitCount(w) > MOST_SEARCHED) {
            return MUCH;
        }
        // It is less, if what is reached now is reached no more; greater, if one more than that is.
        int goal = finder.search(net, side, measure, w) + more;
        for (int a = 0; a < net.size; a++) {
            for (int b = a + 1; b < net.size; b++) {
                if (isOf(w, a) && isOf(w, b)) {
                    net.turnTwo(a, b);
                    boolean reaches = finder.reaches(net, side, measure, w, goal);
                    net.turnTwo(a, b);
                    if (reaches == (more == 1)) {
                        return pairOf(a, b);
                    }
                }
            }
        }
        return NONE;
    }

    public int fewest(int side, long w) {
        if (!isSideAndSet(side, w)) {
            return BAD;
        }
        if (Long.bitCount(w) > MOST_PARTED) {
            return MUCH;
        }
        return finder.fewestParts(net, side, w);
    }

    public long better(int side, long ring, long w) {
        if (!isSideAndSet(side, w)) {
            return BAD;
        }
        if ((ring & ~w) != 0 || !net.allFit(side, ring)) {
            return STATE;
        }
        long best = ring;
        for (int round = 0; round < MOST_POINTS; round++) {
            long next = net.withOneMore(side, best, w);
            if (next == best) {
                next = net.withTwoForOne(side, best, w);
            }
            if (next == best) {
                break;
            }
            best = next;
        }
        return best;
    }

    // ---- proofs, covers

    public int prove(int rule, int side, int measure, int k, long w) {
        if (!isClaim(rule, side, measure, k, w)) {
            return BAD;
        }
        return prover.build(rule, side, measure, k, w);
    }

    public int proof(int place) {
        return place >= 0 && place < prover.length ? prover.nodes[place] : PLACE;
    }

    public int check(int sheet, int rule, int side, int measure, int k, long w) {
        if (!isSheet(sheet) || !isClaim(rule, side, measure, k, w)) {
            return BAD;
        }
        if (sheets[sheet].isMissing()) {
            return NOTHING;
        }
        return prover.firstFault(sheets[sheet], rule, side, measure, k, w);
    }

    public int writes(int sheet) {
        if (!isSheet(sheet)) {
            return BAD;
        }
        if (prover.length == 0) {
            return STATE;
        }
        if (prover.length > MOST_CELLS) {
            return FULL;
        }
        Sheet page = sheets[sheet];
        page.remake(SHORTS, prover.length);
        for (int i = 0; i < prover.length; i++) {
            page.put(i, prover.nodes[i]);
        }
        return prover.length;
    }

    public int cover(int sheet, int side, int measure, long w) {
        if (!isSheet(sheet) || !isAsked(side, measure, w)) {
            return BAD;
        }
        Sheet page = sheets[sheet];
        if (page.isMissing()) {
            return NOTHING;
        }
        int together = 0;
        for (int p = 0; p < net.size; p++) {
            if (isOf(w, p)) {
                long alike = page.alike(p, w);
                long lesser = alike & ((1L << p) - 1);
                if (page.at(p) < 0 || net.fitting(side, p, lesser) != 0) {
                    return FAULT - p;
                }
                if (lesser == 0) {
                    together += net.peak(measure, alike);
                }
            }
        }
        return together;
    }

    public int film(int sheet, int side, long w) {
        if (!isSheet(sheet) || !isSideAndSet(side, w)) {
            return BAD;
        }
        Ranking ranking = judge.grouped(side, w);
        Sheet page = sheets[sheet];
        page.remake(BYTES, net.size);
        for (int p = 0; p < net.size; p++) {
            page.put(p, ranking.groupOf(p));
        }
        return ranking.groupCount;
    }

    public int slip(int sheet, int side) {
        if (!isSheet(sheet) || !isBit(side)) {
            return BAD;
        }
        Sheet page = sheets[sheet];
        if (page.isMissing()) {
            return NOTHING;
        }
        if (page.length < net.size) {
            return PLACE;
        }
        long wrong = 0;
        for (int p = 0; p < net.size; p++) {
            if (page.at(p) != net.fits(side, p)) {
                wrong |= 1L << p;
            }
        }
        return wrong == 0 ? NONE : turnThatMends(page, side, wrong);
    }

    /** A turn changes two points, by one each: so just those two may be wrong. */
    private int turnThatMends(Sheet page, int side, long wrong) {
        if (Long.bitCount(wrong) != 2) {
            return STATE;
        }
        int a = leastOf(wrong);
        int b = leastOf(wrong & (wrong - 1));
        int change = net.fitting(side, a, 1L << b) != 0 ? -1 : 1;
        boolean mends = page.at(a) == net.fits(side, a) + change && page.at(b) == net.fits(side, b) + change;
        return mends ? pairOf(a, b) : STATE;
    }

    // ---- texts, lots

    public int feed(int n, long v) {
        if (n < 1 || n > 8) {
            return BAD;
        }
        return tape.append(n, v);
    }

    public int text() {
        draft.become(net);
        int answer = tape.play(draft);
        tape.length = 0;
        if (answer >= 0) {
            net.become(draft);
        }
        return answer;
    }

    public int deal(int seed, int n, int odds) {
        if (n < 1 || n > MOST_POINTS || !isOdds(odds)) {
            return BAD;
        }
        if (net.size + n > MOST_POINTS) {
            return FULL;
        }
        lot.z = seed;
        for (int i = 0; i < n; i++) {
            int kind = lot.draw() % KINDS;
            int figure = lot.draw() % (MOST_FIGURE + 1);
            lot.tieAhead(net, net.add(kind, figure), odds);
        }
        return net.size;
    }

    public long mean(int seed, int m, int n, int odds, int part) {
        if (m < 1 || m > MOST_NETS || n < 0 || n > MOST_PARTED || !isOdds(odds) || !isBit(part)) {
            return BAD;
        }
        lot.z = seed;
        int together = 0;
        for (int i = 0; i < m; i++) {
            draft.size = 0;
            for (int p = 0; p < n; p++) {
                lot.tieAhead(draft, draft.add(KIND_POINT, 0), odds);
            }
            together += finder.search(draft, 0, 0, draft.whole());
        }
        int divisor = commonDivisor(together, m);
        return (part == 0 ? together : m) / divisor;
    }

    // ---- hands

    public int hold(int hand, int sort, long v) {
        if (!isHand(hand) || sort < HOLDS_NOTHING || sort > HOLDS_SET) {
            return BAD;
        }
        if (sort == HOLDS_POINT && !net.has(v) || sort == HOLDS_RULE && !isRule(v)) {
            return BAD;
        }
        Hand holder = hands[hand];
        int before = holder.sort;
        holder.sort = sort;
        holder.value = v;
        if (sort == HOLDS_POINT) {
            holder.kind = net.kinds[(int) v];
            holder.figure = net.figures[(int) v];
        }
        return before;
    }

    public int handAs(int hand, int kind) {
        if (!isHand(hand) || !isKind(kind)) {
            return BAD;
        }
        Hand holder = hands[hand];
        int refusal = holder.refusalAs(HOLDS_POINT);
        if (refusal != 0) {
            return refusal;
        }
        return isUnder(holder.kind, kind) ? holder.figure : KIND;
    }

    public int handBound(int hand, int side, int measure, long w) {
        if (!isHand(hand) || !isAsked(side, measure, w)) {
            return BAD;
        }
        int refusal = hands[hand].refusalAs(HOLDS_RULE);
        if (refusal != 0) {
            return refusal;
        }
        return judge.most((int) hands[hand].value, side, measure, w);
    }

    public long handLess(int hand, long v) {
        if (!isHand(hand)) {
            return BAD;
        }
        int refusal = hands[hand].refusalAs(HOLDS_SET);
        return refusal != 0 ? refusal : hands[hand].value & ~v;
    }

    // ---- sheets, images

    public int sheet(int sheet, int sort, int n) {
        if (!isSheet(sheet) || sort < MISSING || sort > INTS) {
            return BAD;
        }
        if (sort == MISSING) {
            sheets[sheet].remake(MISSING, 0);
            return 1;
        }
        if (n > MOST_CELLS) {
            return BAD;
        }
        if (n < 0) {
            return SIZE;
        }
        sheets[sheet].remake(sort, n);
        return 1;
    }

    public int cell(int sheet, int i, int v) {
        int refusal = refusalAt(sheet, i);
        return refusal != 0 ? refusal : sheets[sheet].put(i, v);
    }

    public int read(int sheet, int i) {
        int refusal = refusalAt(sheet, i);
        return refusal != 0 ? refusal : sheets[sheet].at(i);
    }

    private int refusalAt(int sheet, int i) {
        if (!isSheet(sheet)) {
            return BAD;
        }
        if (sheets[sheet].isMissing()) {
            return NOTHING;
        }
        return sheets[sheet].hasRoom(i, 1) ? 0 : PLACE;
    }

    public int copy(int from, int i, int to, int j, int n) {
        if (!isSheet(from) || !isSheet(to)) {
            return BAD;
        }
        Sheet source = sheets[from];
        Sheet target = sheets[to];
        if (source.isMissing() || target.isMissing()) {
            return NOTHING;
        }
        if (source.sort != target.sort) {
            return KIND;
        }
        if (!source.hasRoom(i, n) || !target.hasRoom(j, n)) {
            return PLACE;
        }
        System.arraycopy(source.row, i, target.row, j, n);
        return n;
    }

    public int image() {
        kept.become(net);
        isKept = true;
        return net.size;
    }

    public int back() {
        if (!isKept) {
            return STATE;
        }
        net.become(kept);
        return net.size;
    }

    public int count(int what) {
        switch (what) {
            case 0:
                return net.size;
            case 1:
                return net.ties();
            case 2:
                return tape.length;
            case 3:
                return prover.length;
            default:
                return BAD;
        }
    }

    // ---- what is asked of arguments

    private static boolean isBit(int v) {
        return v == 0 || v == 1;
    }

    private static boolean isKind(int kind) {
        return kind >= 0 && kind < KINDS;
    }

    private static boolean isFigure(int figure) {
        return figure >= 0 && figure <= MOST_FIGURE;
    }

    private static boolean isRule(long rule) {
        return rule >= 0 && rule < RULES;
    }

    private static boolean isOdds(int odds) {
        return odds >= 0 && odds <= MOST_ODDS;
    }

    private static boolean isSheet(int sheet) {
        return sheet >= 0 && sheet < SHEETS;
    }

    private static boolean isHand(int hand) {
        return hand >= 0 && hand < HANDS;
    }

    private boolean isSideAndSet(int side, long w) {
        return isBit(side) && net.spans(w);
    }

    private boolean isAsked(int side, int measure, long w) {
        return isBit(side) && isBit(measure) && net.spans(w);
    }

    private boolean isClaim(int rule, int side, int measure, int k, long w) {
        return isRule(rule) && isAsked(side, measure, w) && k >= 0;
    }

    private static boolean isUnder(int kind, int wanted) {
        int above = kind;
        for (int step = 0; step < KINDS && isKind(above); step++) {
            if (above == wanted) {
                return true;
            }
            above = KIND_ABOVE[above];
        }
        return false;
    }

    // ---- numbers and sets

    private static boolean isOf(long w, int point) {
        return (w >>> point & 1) != 0;
    }

    /** The least point of a set, or NONE of an empty one. */
    private static int leastOf(long w) {
        for (int p = 0; p < MOST_POINTS; p++) {
            if (isOf(w, p)) {
                return p;
            }
        }
        return NONE;
    }

    /** The greatest point of a set, up to a point; or NONE. */
    private static int lastOf(long w, int top) {
        for (int p = top; p >= 0; p--) {
            if (isOf(w, p)) {
                return p;
            }
        }
        return NONE;
    }

    private static int pairOf(int a, int b) {
        return MOST_POINTS * a + b;
    }

    /** At least 1, also of 0 and 0, since it is divided by. */
    private static int commonDivisor(int a, int b) {
        int x = a;
        int y = b;
        for (int step = 0; step < 100 && y != 0; step++) {
            int rest = x % y;
            x = y;
            y = rest;
        }
        return Math.max(x, 1);
    }

    /** The points, their kinds, figures and joins: all that an image keeps. */
    private static final class Net {
        int size = 0;
        final int[] kinds = new int[MOST_POINTS];
        final int[] figures = new int[MOST_POINTS];
        final long[] joins = new long[MOST_POINTS];
        /** They hang on all that may change, and are asked far more often than that changes. */
        final int[] weights = new int[MOST_POINTS];

        boolean has(long point) {
            return point >= 0 && point < size;
        }

        long whole() {
            return (1L << size) - 1;
        }

        boolean spans(long w) {
            return (w & ~whole()) == 0;
        }

        int add(int kind, int figure) {
            if (size >= MOST_POINTS) {
                return FULL;
            }
            kinds[size] = kind;
            figures[size] = figure;
            joins[size] = 0;
            size++;
            weigh(size - 1);
            return size - 1;
        }

        void become(Net other) {
            size = other.size;
            System.arraycopy(other.kinds, 0, kinds, 0, MOST_POINTS);
            System.arraycopy(other.figures, 0, figures, 0, MOST_POINTS);
            System.arraycopy(other.joins, 0, joins, 0, MOST_POINTS);
            System.arraycopy(other.weights, 0, weights, 0, MOST_POINTS);
        }

        boolean isTied(int a, int b) {
            return has(a) && has(b) && isOf(joins[a], b);
        }

        void tie(int a, int b, boolean on) {
            if (!has(a) || !has(b) || a == b) {
                return;
            }
            if (on) {
                joins[a] |= 1L << b;
                joins[b] |= 1L << a;
            } else {
                joins[a] &= ~(1L << b);
                joins[b] &= ~(1L << a);
            }
            weigh(a);
            weigh(b);
        }

        void turnTwo(int a, int b) {
            tie(a, b, !isTied(a, b));
        }

        void tieAll(long w, boolean on) {
            for (int p = 0; p < size; p++) {
                if (isOf(w, p)) {
                    long others = w & ~(1L << p);
                    joins[p] = on ? joins[p] | others : joins[p] & ~others;
                    weigh(p);
                }
            }
        }

        int ties() {
            int ends = 0;
            for (int p = 0; p < size; p++) {
                ends += Long.bitCount(joins[p]);
            }
            return ends / 2;
        }

        void weigh(int point) {
            if (!has(point)) {
                return;
            }
            int figure = figures[point];
            int joined = Long.bitCount(joins[point]);
            int weight = figure;
            switch (kinds[point]) {
                case KIND_LOUD:
                    weight = 2 * figure;
                    break;
                case KIND_SHY:
                    weight = Math.max(0, figure - joined);
                    break;
                case KIND_PROUD:
                    weight = 2 * figure + joined;
                    break;
                case KIND_MEEK:
                    weight = Math.max(0, figure - joined) / 2;
                    break;
                case KIND_LONE:
                    weight = joined == 0 ? figure : 1;
                    break;
                default:
                    break;
            }
            weights[point] = weight;
        }

        int worthOf(int measure, int point) {
            return measure == 0 || !has(point) ? 1 : weights[point];
        }

        int worth(int measure, long w) {
            if (measure == 0) {
                return Long.bitCount(w);
            }
            int together = 0;
            for (int p = 0; p < size; p++) {
                if (isOf(w, p)) {
                    together += weights[p];
                }
            }
            return together;
        }

        /** The greatest worth of one point of a set. */
        int peak(int measure, long w) {
            int most = 0;
            for (int p = 0; p < size; p++) {
                if (isOf(w, p)) {
                    most = Math.max(most, worthOf(measure, p));
                }
            }
            return most;
        }

        long fitting(int side, int point, long w) {
            if (!has(point)) {
                return 0;
            }
            return side == 0 ? w & joins[point] : w & ~joins[point] & ~(1L << point);
        }

        int fits(int side, int point) {
            return Long.bitCount(fitting(side, point, whole()));
        }

        boolean allFit(int side, long w) {
            for (int p = 0; p < size; p++) {
                if (isOf(w, p) && fitting(side, p, w) != (w & ~(1L << p))) {
                    return false;
                }
            }
            return true;
        }

        /** Those of a set that fit each point of a ring. */
        long fittingAll(int side, long ring, long w) {
            long open = w;
            for (int p = 0; p < size; p++) {
                if (isOf(ring, p)) {
                    open = fitting(side, p, open);
                }
            }
            return open;
        }

        /** The ring as it was, if none can come. */
        long withOneMore(int side, long ring, long w) {
            long open = fittingAll(side, ring, w & ~ring);
            return ring | (open & -open);
        }

        /** The ring as it was, if there is no such change. */
        long withTwoForOne(int side, long ring, long w) {
            for (int x = 0; x < size; x++) {
                if (isOf(ring, x)) {
                    long others = ring & ~(1L << x);
                    long two = firstTwo(side, fittingAll(side, others, w & ~ring));
                    if (two != 0) {
                        return others | two;
                    }
                }
            }
            return ring;
        }

        private long firstTwo(int side, long open) {
            for (int a = 0; a < size; a++) {
                if (isOf(open, a)) {
                    long behind = fitting(side, a, open) & (-2L << a);
                    if (behind != 0) {
                        return 1L << a | (behind & -behind);
                    }
                }
            }
            return 0;
        }
    }

    /** The order of a set, its depth, classes and what is taken. */
    private static final class Ranking {
        final int[] row = new int[MOST_POINTS];
        int length = 0;
        int depth = 0;
        final long[] groups = new long[MOST_POINTS];
        int groupCount = 0;
        private final int[] fits = new int[MOST_POINTS];

        void rank(Net net, int side, long w) {
            for (int p = 0; p < net.size; p++) {
                fits[p] = Long.bitCount(net.fitting(side, p, w));
            }
            length = 0;
            depth = 0;
            long rest = w;
            for (int place = 0; place < MOST_POINTS && rest != 0; place++) {
                int barest = barestOf(rest);
                if (!net.has(barest)) {
                    break;
                }
                row[place] = barest;
                length = place + 1;
                depth = Math.max(depth, fits[barest]);
                rest &= ~(1L << barest);
                long poorer = net.fitting(side, barest, rest);
                for (int p = 0; p < net.size; p++) {
                    if (isOf(poorer, p)) {
                        fits[p]--;
                    }
                }
            }
        }

        private int barestOf(long rest) {
            int barest = NONE;
            for (int p = 0; p < MOST_POINTS; p++) {
                if (isOf(rest, p) && (barest < 0 || fits[p] < fits[barest])) {
                    barest = p;
                }
            }
            return barest;
        }

        int last() {
            return length > 0 && length <= MOST_POINTS ? row[length - 1] : NONE;
        }

        void group(Net net, int side) {
            groupCount = 0;
            for (int place = length - 1; place >= 0; place--) {
                int point = row[place];
                int g = 0;
                while (g < groupCount && net.fitting(side, point, groups[g]) != 0) {
                    g++;
                }
                if (g >= groupCount && g < MOST_POINTS) {
                    groups[g] = 0;
                    groupCount = g + 1;
                }
                if (g < MOST_POINTS) {
                    groups[g] |= 1L << point;
                }
            }
        }

        /** NONE for a point that isn't of the set. */
        int groupOf(int point) {
            for (int g = 0; g < groupCount; g++) {
                if (isOf(groups[g], point)) {
                    return g;
                }
            }
            return NONE;
        }

        long greedyRing(Net net, int side) {
            long ring = 0;
            for (int place = length - 1; place >= 0; place--) {
                if (net.fitting(side, row[place], ring) == ring) {
                    ring |= 1L << row[place];
                }
            }
            return ring;
        }
    }

    /** The rules that bound what a ring of a set comes to. */
    private static final class Judge {
        private final Net net;
        private final Ranking ranking = new Ranking();

        Judge(Net net) {
            this.net = net;
        }

        Ranking ranked(int side, long w) {
            ranking.rank(net, side, w);
            return ranking;
        }

        Ranking grouped(int side, long w) {
            ranking.rank(net, side, w);
            ranking.group(net, side);
            return ranking;
        }

        int most(int rule, int side, int measure, long w) {
            if (w == 0) {
                return 0;
            }
            switch (rule) {
                case RULE_COLOURS:
                    return byColours(side, measure, w);
                case RULE_CORE:
                    return byCore(side, measure, w);
                case RULE_SHRUNK:
                    long ring = ranked(side, w).greedyRing(net, side);
                    int floor = net.worth(measure, ring);
                    return Math.max(floor, byColours(side, measure, withoutBare(side, measure, w, floor)));
                case RULE_BEST:
                    return Math.min(byCore(side, measure, w), byColours(side, measure, w));
                case RULE_COUNT:
                default:
                    return net.worth(measure, w);
            }
        }

        private int byColours(int side, int measure, long w) {
            ranking.rank(net, side, w);
            ranking.group(net, side);
            int together = 0;
            for (int g = 0; g < ranking.groupCount; g++) {
                together += net.peak(measure, ranking.groups[g]);
            }
            return together;
        }

        /** By measure 0 this is the depth, and 1: each point comes with those behind it that fit it. */
        private int byCore(int side, int measure, long w) {
            ranking.rank(net, side, w);
            int most = 0;
            long behind = 0;
            for (int place = ranking.length - 1; place >= 0; place--) {
                int point = ranking.row[place];
                long bit = 1L << point;
                most = Math.max(most, net.worth(measure, net.fitting(side, point, behind) | bit));
                behind |= bit;
            }
            return most;
        }

        /** Without those that, with all that fit them, come to no more than a floor, till there is none. */
        long withoutBare(int side, int measure, long w, int floor) {
            long rest = w;
            for (int round = 0; round <= MOST_POINTS && rest != 0; round++) {
                long bare = 0;
                for (int p = 0; p < net.size; p++) {
                    long bit = 1L << p;
                    if (isOf(rest, p) && net.worth(measure, net.fitting(side, p, rest) | bit) <= floor) {
                        bare |= bit;
                    }
                }
                if (bare == 0) {
                    break;
                }
                rest &= ~bare;
            }
            return rest;
        }
    }

    /** Looks through all rings of a small set. */
    private static final class Finder {
        /** Those that can't grow, as gather() found them, the least first. */
        final long[] rings = new long[MOST_GROWN];
        int found = 0;
        private Net net;
        private int side = 0;
        private final int[] worths = new int[MOST_POINTS];
        private final int[] members = new int[MOST_PARTED];
        private final long[] parts = new long[MOST_PARTED];
        private int memberCount = 0;
        private int best = 0;
        private int goal = 0;

        Finder(Net first) {
            net = first;
        }

        void gather(Net where, int bySide, long w) {
            net = where;
            side = bySide;
            found = 0;
            grow(0, w, 0, net.size - 1);
        }

        /**
         * open and shut fit all of the ring: open may come yet, up to top, shut were passed over.
         * Rings without the last open point come first, so that they come in the order of numbers.
         */
        private void grow(long ring, long open, long shut, int top) {
            if (open == 0) {
                if (shut == 0 && found < MOST_GROWN) {
                    rings[found] = ring;
                    found++;
                }
                return;
            }
            int point = lastOf(open, top);
            if (point < 0 || isHopeless(open, shut)) {
                return;
            }
            long bit = 1L << point;
            long rest = open & ~bit;
            grow(ring, rest, shut | bit, point - 1);
            grow(ring | bit, net.fitting(side, point, rest), net.fitting(side, point, shut), point - 1);
        }

        /** Whether a point was passed over that would fit whatever comes yet. */
        private boolean isHopeless(long open, long shut) {
            for (int p = 0; p < net.size; p++) {
                if (isOf(shut, p) && net.fitting(side, p, open) == open) {
                    return true;
                }
            }
            return false;
        }

        int mostWorth(int measure) {
            int most = 0;
            for (int i = 0; i < found; i++) {
                most = Math.max(most, net.worth(measure, rings[i]));
            }
            return most;
        }

        long firstOf(int measure, int worth) {
            for (int i = 0; i < found; i++) {
                if (net.worth(measure, rings[i]) == worth) {
                    return rings[i];
                }
            }
            return 0;
        }

        long inEach(int measure, int worth, long w) {
            long each = w;
            for (int i = 0; i < found; i++) {
                if (net.worth(measure, rings[i]) == worth) {
                    each &= rings[i];
                }
            }
            return each;
        }

        long inAny(int measure, int worth) {
            long any = 0;
            for (int i = 0; i < found; i++) {
                if (net.worth(measure, rings[i]) == worth) {
                    any |= rings[i];
                }
            }
            return any;
        }

        int howMany(int measure, int worth) {
            int many = 0;
            for (int i = 0; i < found; i++) {
                if (net.worth(measure, rings[i]) == worth) {
                    many++;
                }
            }
            return many;
        }

        /** What the greatest ring comes to; quicker than gather(), where nothing else is asked. */
        int search(Net where, int bySide, int measure, long w) {
            prepare(where, bySide, measure);
            best = 0;
            goal = BEYOND_ALL;
            climb(w, 0, net.size - 1);
            return best;
        }

        /** Whether a ring comes to a goal; ends with the first one that does. */
        boolean reaches(Net where, int bySide, int measure, long w, int aim) {
            prepare(where, bySide, measure);
            best = aim - 1;
            goal = aim;
            climb(w, 0, net.size - 1);
            return best >= goal;
        }

        private void prepare(Net where, int bySide, int measure) {
            net = where;
            side = bySide;
            for (int p = 0; p < net.size; p++) {
                worths[p] = net.worthOf(measure, p);
            }
        }

        private void climb(long open, int sum, int top) {
            best = Math.max(best, sum);
            int point = lastOf(open, top);
            if (!net.has(point) || best >= goal || sum + worthTogether(open, point) <= best) {
                return;
            }
            long rest = open & ~(1L << point);
            long fitting = net.fitting(side, point, rest);
            climb(fitting, sum + worths[point], point - 1);
            // A point that fits all the rest is never left out for gain: no worth is below 0.
            if (fitting != rest) {
                climb(rest, sum, point - 1);
            }
        }

        private int worthTogether(long open, int top) {
            int together = 0;
            for (int p = 0; p <= top; p++) {
                if (isOf(open, p)) {
                    together += worths[p];
                }
            }
            return together;
        }

        int fewestParts(Net where, int bySide, long w) {
            net = where;
            side = bySide;
            memberCount = 0;
            for (int p = 0; p < net.size; p++) {
                if (isOf(w, p) && memberCount < MOST_PARTED) {
                    members[memberCount] = p;
                    memberCount++;
                }
            }
            best = memberCount;
            part(0, 0);
            return best;
        }

        /** Members from a place on come to parts that there are, or to a new one; used of them are not empty. */
        private void part(int place, int used) {
            if (used >= best) {
                return;
            }
            if (place >= memberCount || place >= MOST_PARTED) {
                best = used;
                return;
            }
            long bit = 1L << members[place];
            for (int g = 0; g <= used && g < MOST_PARTED; g++) {
                long before = g < used ? parts[g] : 0;
                if (net.fitting(side, members[place], before) == 0) {
                    parts[g] = before | bit;
                    part(place + 1, Math.max(used, g + 1));
                    parts[g] = before;
                }
            }
        }
    }

    /** Makes and checks proofs; keeps THE PROOF. */
    private static final class Prover {
        final int[] nodes = new int[MOST_NODES];
        /** 0: there is no proof yet. */
        int length = 0;
        private final Net net;
        private final Judge judge;
        /** A proof that fails leaves the one before it, so it is made beside that. */
        private final int[] drafted = new int[MOST_NODES];
        private final long[] pendingSets = new long[MOST_PENDING];
        private final int[] pendingSums = new int[MOST_PENDING];
        private int pending = 0;

        Prover(Net net, Judge judge) {
            this.net = net;
            this.judge = judge;
        }

        int build(int rule, int side, int measure, int k, long w) {
            pending = 0;
            await(w, 0);
            int made = 0;
            while (pending > 0 && made < MOST_NODES) {
                pending--;
                long s = pendingSets[pending];
                int sum = pendingSums[pending];
                if (sum + judge.most(rule, side, measure, s) <= k) {
                    drafted[made] = NONE;
                } else if (s == 0) {
                    return NONE;
                } else {
                    drafted[made] = judge.ranked(side, s).last();
                    branch(side, measure, s, sum, drafted[made]);
                }
                made++;
            }
            if (pending > 0) {
                return MUCH;
            }
            System.arraycopy(drafted, 0, nodes, 0, made);
            length = made;
            return made;
        }

        /** NONE, if the sheet tells a proof. */
        int firstFault(Sheet sheet, int rule, int side, int measure, int k, long w) {
            pending = 0;
            await(w, 0);
            for (int place = 0; place < sheet.length; place++) {
                if (pending == 0) {
                    return place;
                }
                pending--;
                long s = pendingSets[pending];
                int sum = pendingSums[pending];
                int node = sheet.at(place);
                if (net.has(node) && isOf(s, node)) {
                    branch(side, measure, s, sum, node);
                } else if (node != NONE || sum + judge.most(rule, side, measure, s) > k) {
                    return place;
                }
            }
            return pending == 0 ? NONE : sheet.length;
        }

        /** What awaits last comes first. */
        private void branch(int side, int measure, long s, int sum, int point) {
            await(s & ~(1L << point), sum);
            await(net.fitting(side, point, s), sum + net.worthOf(measure, point));
        }

        private void await(long s, int sum) {
            if (pending < MOST_PENDING) {
                pendingSets[pending] = s;
                pendingSums[pending] = sum;
                pending++;
            }
        }
    }

    /** Bytes of a text, and the reading of them. */
    private static final class Tape {
        private static final int END = 0, WORD = 1, NUMBER = 2, SIGN = 3, WRONG = 4;
        private static final int VERB_JOIN = 0, VERB_CUT = 1, VERB_ALL = 2, VERB_RING = 3, VERB_FLIP = 4, VERBS = 5;

        int length = 0;
        private final byte[] bytes = new byte[MOST_BYTES];
        /** The token that is looked at: its sort, first byte, the byte behind it. */
        private int token = END;
        private int start = 0;
        private int stop = 0;

        int append(int n, long v) {
            if (length + n > MOST_BYTES) {
                return FULL;
            }
            for (int i = 0; i < n; i++) {
                bytes[length] = (byte) (v >>> (56 - 8 * i));
                length++;
            }
            return length;
        }

        /** How many statements came to the net; with a fault the net is spoilt. */
        int play(Net net) {
            stop = 0;
            advance();
            for (int statements = 1; statements <= MOST_BYTES; statements++) {
                if (!playStatement(net)) {
                    break;
                }
                if (token == END) {
                    return statements;
                }
                if (token != SIGN) {
                    break;
                }
                advance();
            }
            return FAULT - start;
        }

        /** If it can't be, the token that is looked at is the fault. */
        private boolean playStatement(Net net) {
            if (isWord(pointName(KIND_POINT))) {
                return playPoint(net);
            }
            int verb = verbHere();
            if (verb < 0) {
                return false;
            }
            advance();
            int first = numberHere();
            if (!net.has(first)) {
                return false;
            }
            advance();
            int second = numberHere();
            boolean anyOrder = verb == VERB_JOIN || verb == VERB_CUT;
            if (!net.has(second) || second == first || second < first && !anyOrder) {
                return false;
            }
            carryOut(net, verb, first, second);
            advance();
            return true;
        }

        private boolean playPoint(Net net) {
            if (net.size >= MOST_POINTS) {
                return false;
            }
            advance();
            int kind = kindHere();
            if (kind < 0) {
                return false;
            }
            advance();
            int figure = numberHere();
            if (figure < 0) {
                return false;
            }
            net.add(kind, figure);
            advance();
            return true;
        }

        private static void carryOut(Net net, int verb, int first, int second) {
            if (verb == VERB_JOIN || verb == VERB_CUT) {
                net.tie(first, second, verb == VERB_JOIN);
                return;
            }
            for (int a = first; a < second && a < MOST_POINTS; a++) {
                for (int b = a + 1; b <= second && b < MOST_POINTS; b++) {
                    boolean areNext = b == a + 1 || a == first && b == second;
                    if (verb != VERB_RING || areNext) {
                        net.tie(a, b, verb != VERB_FLIP || !net.isTied(a, b));
                    }
                }
            }
        }

        private void advance() {
            start = stop;
            while (start < length && byteAt(start) == ' ') {
                start++;
            }
            stop = start + 1;
            int first = byteAt(start);
            if (start >= length) {
                token = END;
                stop = start;
            } else if (isLetter(first)) {
                token = WORD;
                while (stop < length && isLetter(byteAt(stop))) {
                    stop++;
                }
            } else if (isDigit(first)) {
                token = NUMBER;
                while (stop < length && isDigit(byteAt(stop))) {
                    stop++;
                }
            } else {
                token = first == ';' ? SIGN : WRONG;
            }
        }

        private int byteAt(int i) {
            return i >= 0 && i < length && i < MOST_BYTES ? bytes[i] : -1;
        }

        private static boolean isLetter(int b) {
            return b >= 'a' && b <= 'z';
        }

        private static boolean isDigit(int b) {
            return b >= '0' && b <= '9';
        }

        /** NONE, if it is no number of one or two digits. */
        private int numberHere() {
            if (token != NUMBER || stop - start > 2) {
                return NONE;
            }
            int number = 0;
            for (int i = start; i < stop; i++) {
                number = 10 * number + byteAt(i) - '0';
            }
            return number;
        }

        private boolean isWord(String word) {
            if (token != WORD || stop - start != word.length()) {
                return false;
            }
            for (int i = 0; i < word.length(); i++) {
                if (byteAt(start + i) != word.charAt(i)) {
                    return false;
                }
            }
            return true;
        }

        private int kindHere() {
            for (int kind = 0; kind < KINDS; kind++) {
                if (isWord(pointName(kind))) {
                    return kind;
                }
            }
            return NONE;
        }

        private int verbHere() {
            for (int verb = 0; verb < VERBS; verb++) {
                if (isWord(verbName(verb))) {
                    return verb;
                }
            }
            return NONE;
        }

        private static String pointName(int kind) {
            switch (kind) {
                case KIND_LOUD:
                    return "loud";
                case KIND_SHY:
                    return "shy";
                case KIND_PROUD:
                    return "proud";
                case KIND_MEEK:
                    return "meek";
                case KIND_LONE:
                    return "lone";
                default:
                    return "point";
            }
        }

        private static String verbName(int verb) {
            switch (verb) {
                case VERB_CUT:
                    return "cut";
                case VERB_ALL:
                    return "all";
                case VERB_RING:
                    return "ring";
                case VERB_FLIP:
                    return "flip";
                default:
                    return "join";
            }
        }
    }

    /** Draws by lot. */
    private static final class Lot {
        int z = 0;

        int draw() {
            z = z * 1103515245 + 12345;
            return z >>> 8;
        }

        void tieAhead(Net net, int point, int odds) {
            for (int p = 0; p < point; p++) {
                net.tie(p, point, draw() % 10 < odds);
            }
        }
    }

    /** A row of numbers of a sort. */
    private static final class Sheet {
        int sort = MISSING;
        int length = 0;
        final int[] row = new int[MOST_CELLS];

        boolean isMissing() {
            return sort == MISSING;
        }

        void remake(int newSort, int n) {
            sort = newSort;
            length = Math.max(0, Math.min(n, MOST_CELLS));
            Arrays.fill(row, 0);
        }

        boolean hasRoom(int i, int n) {
            return i >= 0 && n >= 0 && i <= length && n <= length - i;
        }

        int put(int i, int v) {
            if (!hasRoom(i, 1)) {
                return PLACE;
            }
            row[i] = sort == BYTES ? (byte) v : sort == SHORTS ? (short) v : v;
            return row[i];
        }

        /** NONE beyond the last place. */
        int at(int i) {
            return hasRoom(i, 1) ? row[i] : NONE;
        }

        /** Those of a set whose places tell the same number as that of a point. */
        long alike(int point, long w) {
            long set = 0;
            for (int p = 0; p < length && p < MOST_POINTS; p++) {
                if (isOf(w, p) && row[p] == at(point)) {
                    set |= 1L << p;
                }
            }
            return set;
        }
    }

    /** Holds nothing, a point as it was, a rule or a set. */
    private static final class Hand {
        int sort = HOLDS_NOTHING;
        /** The rule or the set. */
        long value = 0;
        int kind = 0;
        int figure = 0;

        /** 0, if it holds what is wanted. */
        int refusalAs(int wanted) {
            if (sort == HOLDS_NOTHING) {
                return NOTHING;
            }
            return sort == wanted ? 0 : KIND;
        }
    }
}
