import java.util.ArrayList;
import java.util.Arrays;
import java.util.HashMap;
import java.util.LinkedHashMap;
import java.util.List;
import java.util.Map;
import java.util.TreeMap;
import java.util.TreeSet;
import java.util.regex.Matcher;
import java.util.regex.Pattern;

/** The document once more, as slow and as plain as can be, for the class to be held against. */
final class Naive {
    static final int NONE = -1, BAD = -2, STATE = -3, FULL = -4, MUCH = -5, NOTHING = -11, PLACE = -12, KIND = -13, SIZE = -14;

    static final class World {
        List<int[]> points = new ArrayList<>();
        TreeSet<Integer> joins = new TreeSet<>();

        World twin() {
            World w = new World();
            for (int[] p : points) {
                w.points.add(p.clone());
            }
            w.joins.addAll(joins);
            return w;
        }

        boolean joined(int a, int b) {
            return joins.contains(Math.min(a, b) * 1000 + Math.max(a, b));
        }

        void join(int a, int b, boolean on) {
            int key = Math.min(a, b) * 1000 + Math.max(a, b);
            if (on) {
                joins.add(key);
            } else {
                joins.remove(key);
            }
        }

        int degree(int p) {
            int d = 0;
            for (int q = 0; q < points.size(); q++) {
                if (q != p && joined(p, q)) {
                    d++;
                }
            }
            return d;
        }

        int weight(int p) {
            return weightAs(points.get(p)[0], p);
        }

        int weightAs(int kind, int p) {
            switch (kind) {
                case 0: return points.get(p)[1];
                case 1: return 2 * weightAs(0, p);
                case 2: return Math.max(0, weightAs(0, p) - degree(p));
                case 3: return weightAs(1, p) + degree(p);
                case 4: return weightAs(2, p) / 2;
                case 5: return degree(p) == 0 ? weightAs(0, p) : 1;
                default: throw new IllegalStateException();
            }
        }

        boolean fit(int side, int a, int b) {
            return a != b && joined(a, b) == (side == 0);
        }
    }

    World net = new World();
    World kept = null;
    List<Integer> theProof = null;
    byte[] tape = new byte[0];
    int[] sorts = {-1, -1, -1, -1};
    int[][] sheets = new int[4][];
    int[] handSort = new int[4];
    long[] handValue = new long[4];
    int[][] handPoint = new int[4][];

    int n() {
        return net.points.size();
    }

    boolean isPoint(long p) {
        return p >= 0 && p < n();
    }

    boolean isSet(long w) {
        for (int b = 0; b < 64; b++) {
            if ((w >>> b & 1) == 1 && b >= n()) {
                return false;
            }
        }
        return true;
    }

    static boolean in(long v, long least, long most) {
        return v >= least && v <= most;
    }

    static List<Integer> list(long w) {
        List<Integer> l = new ArrayList<>();
        for (int b = 0; b < 64; b++) {
            if ((w >>> b & 1) == 1) {
                l.add(b);
            }
        }
        return l;
    }

    static long mask(Iterable<Integer> l) {
        long w = 0;
        for (int p : l) {
            w |= 1L << p;
        }
        return w;
    }

    static int measureOf(World x, int measure, List<Integer> s) {
        int sum = 0;
        for (int p : s) {
            sum += measure == 0 ? 1 : x.weight(p);
        }
        return sum;
    }

    static boolean ring(World x, int side, List<Integer> s) {
        for (int a : s) {
            for (int b : s) {
                if (a != b && !x.fit(side, a, b)) {
                    return false;
                }
            }
        }
        return true;
    }

    static boolean fitsAll(World x, int side, int p, List<Integer> s) {
        for (int q : s) {
            if (!x.fit(side, p, q)) {
                return false;
            }
        }
        return true;
    }

    static List<Integer> fitting(World x, int side, int p, List<Integer> s) {
        List<Integer> l = new ArrayList<>();
        for (int q : s) {
            if (x.fit(side, p, q)) {
                l.add(q);
            }
        }
        return l;
    }

    // ---- points

    long point(int kind, int figure) {
        if (!in(kind, 0, 5) || !in(figure, 0, 99)) return BAD;
        if (n() == 40) return FULL;
        net.points.add(new int[] {kind, figure});
        return n() - 1;
    }

    long told(int p, int what) {
        if (!isPoint(p) || !in(what, 0, 3)) return BAD;
        return what == 0 ? net.points.get(p)[0] : what == 1 ? net.points.get(p)[1] : what == 2 ? net.weight(p) : net.degree(p);
    }

    long set(int p, int figure) {
        if (!isPoint(p) || !in(figure, 0, 99)) return BAD;
        int was = net.points.get(p)[1];
        net.points.get(p)[1] = figure;
        return was;
    }

    long turns(int p, int kind) {
        if (!isPoint(p) || !in(kind, 0, 5)) return BAD;
        int was = net.points.get(p)[0];
        net.points.get(p)[0] = kind;
        return was;
    }

    long join(int a, int b, int on) {
        if (!isPoint(a) || !isPoint(b) || a == b || !in(on, 0, 1)) return BAD;
        boolean was = net.joined(a, b);
        net.join(a, b, on == 1);
        return was ? 1 : 0;
    }

    long mesh(long w, int on) {
        if (!isSet(w) || !in(on, 0, 1)) return BAD;
        int fresh = 0;
        for (int a : list(w)) {
            for (int b : list(w)) {
                if (a < b && net.joined(a, b) != (on == 1)) {
                    net.join(a, b, on == 1);
                    fresh++;
                }
            }
        }
        return fresh;
    }

    long near(int side, int p, long w) {
        if (!in(side, 0, 1) || !isPoint(p) || !isSet(w)) return BAD;
        return mask(fitting(net, side, p, list(w)));
    }

    long measure(int measure, long w) {
        if (!in(measure, 0, 1) || !isSet(w)) return BAD;
        return measureOf(net, measure, list(w));
    }

    long isRing(int side, long w) {
        if (!in(side, 0, 1) || !isSet(w)) return BAD;
        return ring(net, side, list(w)) ? 1 : 0;
    }

    // ---- orders

    static List<Integer> orderOf(World x, int side, List<Integer> s) {
        List<Integer> rest = new ArrayList<>(s);
        List<Integer> order = new ArrayList<>();
        while (!rest.isEmpty()) {
            Integer first = null;
            for (Integer p : rest) {
                if (first == null || fitting(x, side, p, rest).size() < fitting(x, side, first, rest).size()) {
                    first = p;
                }
            }
            order.add(first);
            rest.remove(first);
        }
        return order;
    }

    static int depthOf(World x, int side, List<Integer> s) {
        List<Integer> order = orderOf(x, side, s);
        int depth = 0;
        for (int i = 0; i < order.size(); i++) {
            depth = Math.max(depth, fitting(x, side, order.get(i), order.subList(i, order.size())).size());
        }
        return depth;
    }

    static List<List<Integer>> classesOf(World x, int side, List<Integer> s) {
        List<Integer> order = orderOf(x, side, s);
        List<List<Integer>> classes = new ArrayList<>();
        for (int i = order.size() - 1; i >= 0; i--) {
            int p = order.get(i);
            List<Integer> home = null;
            for (List<Integer> c : classes) {
                if (fitting(x, side, p, c).isEmpty()) {
                    home = c;
                    break;
                }
            }
            if (home == null) {
                home = new ArrayList<>();
                classes.add(home);
            }
            home.add(p);
        }
        return classes;
    }

    static List<Integer> takenOf(World x, int side, List<Integer> s) {
        List<Integer> order = orderOf(x, side, s);
        List<Integer> taken = new ArrayList<>();
        for (int i = order.size() - 1; i >= 0; i--) {
            if (fitsAll(x, side, order.get(i), taken)) {
                taken.add(order.get(i));
            }
        }
        return taken;
    }

    static List<Integer> leftOf(World x, int side, int measure, List<Integer> s) {
        List<Integer> taken = takenOf(x, side, s);
        List<Integer> left = new ArrayList<>(s);
        while (true) {
            List<Integer> out = new ArrayList<>();
            for (int p : left) {
                List<Integer> fit = fitting(x, side, p, left);
                if (measure == 0 ? fit.size() < taken.size() : x.weight(p) + measureOf(x, 1, fit) <= measureOf(x, 1, taken)) {
                    out.add(p);
                }
            }
            if (out.isEmpty()) {
                return left;
            }
            left.removeAll(out);
        }
    }

    static int boundOf(World x, int rule, int side, int measure, List<Integer> s) {
        int sum = 0;
        switch (rule) {
            case 0:
                return measureOf(x, measure, s);
            case 1:
                for (List<Integer> c : classesOf(x, side, s)) {
                    int most = 0;
                    for (int p : c) {
                        most = Math.max(most, measure == 0 ? 1 : x.weight(p));
                    }
                    sum += most;
                }
                return sum;
            case 2:
                if (s.isEmpty()) {
                    return 0;
                }
                if (measure == 0) {
                    return depthOf(x, side, s) + 1;
                }
                List<Integer> order = orderOf(x, side, s);
                for (int i = 0; i < order.size(); i++) {
                    List<Integer> behind = order.subList(i + 1, order.size());
                    sum = Math.max(sum, x.weight(order.get(i)) + measureOf(x, 1, fitting(x, side, order.get(i), behind)));
                }
                return sum;
            case 3:
                return Math.max(measureOf(x, measure, takenOf(x, side, s)), boundOf(x, 1, side, measure, leftOf(x, side, measure, s)));
            default:
                return Math.min(boundOf(x, 1, side, measure, s), boundOf(x, 2, side, measure, s));
        }
    }

    long order(int side, long w, int k) {
        if (!in(side, 0, 1) || !isSet(w)) return BAD;
        if (k == -1) return depthOf(net, side, list(w));
        List<Integer> order = orderOf(net, side, list(w));
        return in(k, 0, order.size() - 1) ? order.get(k) : PLACE;
    }

    long classes(int side, long w, int k) {
        if (!in(side, 0, 1) || !isSet(w)) return BAD;
        List<List<Integer>> c = classesOf(net, side, list(w));
        if (k == -1) return c.size();
        return in(k, 0, c.size() - 1) ? mask(c.get(k)) : PLACE;
    }

    long taken(int side, long w) {
        if (!in(side, 0, 1) || !isSet(w)) return BAD;
        return mask(takenOf(net, side, list(w)));
    }

    long left(int side, int measure, long w) {
        if (!in(side, 0, 1) || !in(measure, 0, 1) || !isSet(w)) return BAD;
        return mask(leftOf(net, side, measure, list(w)));
    }

    long bound(int rule, int side, int measure, long w) {
        if (!in(rule, 0, 4) || !in(side, 0, 1) || !in(measure, 0, 1) || !isSet(w)) return BAD;
        return boundOf(net, rule, side, measure, list(w));
    }

    long core(int side, int f, long w) {
        if (!in(side, 0, 1) || !in(f, 0, 39) || !isSet(w)) return BAD;
        List<Integer> s = list(w);
        // one at a time, where the class drops all at once: the greatest such set is the same
        boolean again = true;
        while (again) {
            again = false;
            for (Integer p : s) {
                if (fitting(net, side, p, s).size() < f) {
                    s.remove(p);
                    again = true;
                    break;
                }
            }
        }
        return mask(s);
    }

    // ---- the greatest

    /** Each subset of W by itself, in the order of numbers. */
    static List<Long> grownOf(World x, int side, long w) {
        int size = x.points.size();
        long[] fit = new long[size];
        for (int a = 0; a < size; a++) {
            for (int b = 0; b < size; b++) {
                if (x.fit(side, a, b)) {
                    fit[a] |= 1L << b;
                }
            }
        }
        List<Long> grown = new ArrayList<>();
        long r = 0;
        do {
            long each = w;
            boolean isRing = true;
            for (int p = 0; p < size; p++) {
                if ((r >>> p & 1) == 1) {
                    isRing &= (r & ~fit[p] & ~(1L << p)) == 0;
                    each &= fit[p];
                }
            }
            if (isRing && (each & ~r) == 0) {
                grown.add(r);
            }
            r = (r - w) & w;
        } while (r != 0);
        return grown;
    }

    static List<Long> greatestOnes(World x, int side, int measure, long w) {
        TreeMap<Integer, List<Long>> by = new TreeMap<>();
        for (long r : grownOf(x, side, w)) {
            by.computeIfAbsent(measureOf(x, measure, list(r)), z -> new ArrayList<>()).add(r);
        }
        return by.lastEntry().getValue();
    }

    static int greatestMeasure(World x, int side, int measure, long w) {
        return measureOf(x, measure, list(greatestOnes(x, side, measure, w).get(0)));
    }

    long greatest(int side, int measure, long w) {
        if (!in(side, 0, 1) || !in(measure, 0, 1) || !isSet(w)) return BAD;
        if (list(w).size() > 16) return MUCH;
        return greatestOnes(net, side, measure, w).get(0);
    }

    long grown(int side, long w, int k) {
        if (!in(side, 0, 1) || !isSet(w)) return BAD;
        if (list(w).size() > 16) return MUCH;
        List<Long> g = grownOf(net, side, w);
        if (k == -1) return g.size();
        return in(k, 0, g.size() - 1) ? g.get(k) : PLACE;
    }

    long all(int side, int measure, long w, int what) {
        if (!in(side, 0, 1) || !in(measure, 0, 1) || !isSet(w) || !in(what, 0, 2)) return BAD;
        if (list(w).size() > 16) return MUCH;
        List<Long> g = greatestOnes(net, side, measure, w);
        long each = -1, any = 0;
        for (long r : g) {
            each &= r;
            any |= r;
        }
        return what == 0 ? each : what == 1 ? any : g.size();
    }

    long turning(int side, int measure, long w, int more) {
        if (!in(side, 0, 1) || !in(measure, 0, 1) || !isSet(w) || !in(more, 0, 1)) return BAD;
        if (list(w).size() > 16) return MUCH;
        int now = greatestMeasure(net, side, measure, w);
        for (int a : list(w)) {
            for (int b : list(w)) {
                if (a < b) {
                    World other = net.twin();
                    other.join(a, b, !other.joined(a, b));
                    int then = greatestMeasure(other, side, measure, w);
                    if (more == 0 ? then < now : then > now) {
                        return 40 * a + b;
                    }
                }
            }
        }
        return NONE;
    }

    long fewest(int side, long w) {
        if (!in(side, 0, 1) || !isSet(w)) return BAD;
        if (list(w).size() > 10) return MUCH;
        return fewestOf(side, w, new HashMap<>());
    }

    private int fewestOf(int side, long w, Map<Long, Integer> known) {
        if (w == 0) {
            return 0;
        }
        Integer k = known.get(w);
        if (k != null) {
            return k;
        }
        int best = 99;
        for (long part = w; part != 0; part = (part - 1) & w) {
            if (ring(net, 1 - side, list(part))) {
                best = Math.min(best, 1 + fewestOf(side, w & ~part, known));
            }
        }
        known.put(w, best);
        return best;
    }

    long better(int side, long r, long w) {
        if (!in(side, 0, 1) || !isSet(w)) return BAD;
        if ((r & ~w) != 0 || !ring(net, side, list(r))) return STATE;
        List<Integer> now = list(r);
        while (betterOnce(side, now, list(w))) {
            // once more
        }
        return mask(now);
    }

    private boolean betterOnce(int side, List<Integer> now, List<Integer> w) {
        for (Integer p : w) {
            if (!now.contains(p) && fitsAll(net, side, p, now)) {
                now.add(p);
                return true;
            }
        }
        List<Integer> sorted = new ArrayList<>(new TreeSet<>(now));
        for (Integer x : sorted) {
            List<Integer> without = new ArrayList<>(now);
            without.remove(x);
            for (Integer a : w) {
                for (Integer b : w) {
                    if (a < b && !now.contains(a) && !now.contains(b) && net.fit(side, a, b)
                            && fitsAll(net, side, a, without) && fitsAll(net, side, b, without)) {
                        now.remove(x);
                        now.add(a);
                        now.add(b);
                        return true;
                    }
                }
            }
        }
        return false;
    }

    // ---- proofs

    /** 0: goes on; else what the making ended with. */
    private int node(List<Integer> out, int[] c, List<Integer> s, int m) {
        if (out.size() == 200) {
            return MUCH;
        }
        if (m + boundOf(net, c[0], c[1], c[2], s) <= c[3]) {
            out.add(-1);
            return 0;
        }
        if (s.isEmpty()) {
            return NONE;
        }
        List<Integer> order = orderOf(net, c[1], s);
        Integer p = order.get(order.size() - 1);
        out.add(p);
        int r = node(out, c, fitting(net, c[1], p, s), m + measureOf(net, c[2], List.of(p)));
        if (r != 0) {
            return r;
        }
        List<Integer> without = new ArrayList<>(s);
        without.remove(p);
        return node(out, c, without, m);
    }

    private boolean claim(int rule, int side, int measure, int k, long w) {
        return in(rule, 0, 4) && in(side, 0, 1) && in(measure, 0, 1) && k >= 0 && isSet(w);
    }

    long prove(int rule, int side, int measure, int k, long w) {
        if (!claim(rule, side, measure, k, w)) return BAD;
        List<Integer> out = new ArrayList<>();
        int r = node(out, new int[] {rule, side, measure, k}, list(w), 0);
        if (r != 0) return r;
        theProof = out;
        return out.size();
    }

    long proof(int place) {
        return theProof != null && in(place, 0, theProof.size() - 1) ? theProof.get(place) : PLACE;
    }

    /** The place behind the node and all behind it; or -1000 less the fault. */
    private int walk(int[] row, int at, int[] c, List<Integer> s, int m) {
        if (at == row.length) {
            return -1000 - at;
        }
        if (row[at] == -1) {
            return m + boundOf(net, c[0], c[1], c[2], s) <= c[3] ? at + 1 : -1000 - at;
        }
        Integer p = row[at];
        if (!s.contains(p)) {
            return -1000 - at;
        }
        int next = walk(row, at + 1, c, fitting(net, c[1], p, s), m + measureOf(net, c[2], List.of(p)));
        if (next < 0) {
            return next;
        }
        List<Integer> without = new ArrayList<>(s);
        without.remove(p);
        return walk(row, next, c, without, m);
    }

    long check(int sheet, int rule, int side, int measure, int k, long w) {
        if (!in(sheet, 0, 3) || !claim(rule, side, measure, k, w)) return BAD;
        if (sorts[sheet] == -1) return NOTHING;
        int end = walk(sheets[sheet], 0, new int[] {rule, side, measure, k}, list(w), 0);
        if (end < 0) return -1000 - end;
        return end == sheets[sheet].length ? NONE : end;
    }

    long writes(int sheet) {
        if (!in(sheet, 0, 3)) return BAD;
        if (theProof == null) return STATE;
        if (theProof.size() > 60) return FULL;
        sorts[sheet] = 1;
        sheets[sheet] = theProof.stream().mapToInt(i -> i).toArray();
        return theProof.size();
    }

    long cover(int sheet, int side, int measure, long w) {
        if (!in(sheet, 0, 3) || !in(side, 0, 1) || !in(measure, 0, 1) || !isSet(w)) return BAD;
        if (sorts[sheet] == -1) return NOTHING;
        int[] row = sheets[sheet];
        Map<Integer, Integer> peaks = new LinkedHashMap<>();
        for (int p : list(w)) {
            if (p >= row.length || row[p] < 0) return -100 - p;
            for (int q : list(w)) {
                if (q < p && row[q] == row[p] && net.fit(side, p, q)) return -100 - p;
            }
            peaks.merge(row[p], measure == 0 ? 1 : net.weight(p), Math::max);
        }
        int sum = 0;
        for (int v : peaks.values()) {
            sum += v;
        }
        return sum;
    }

    long film(int sheet, int side, long w) {
        if (!in(sheet, 0, 3) || !in(side, 0, 1) || !isSet(w)) return BAD;
        List<List<Integer>> c = classesOf(net, side, list(w));
        sorts[sheet] = 0;
        sheets[sheet] = new int[n()];
        Arrays.fill(sheets[sheet], -1);
        for (int i = 0; i < c.size(); i++) {
            for (int p : c.get(i)) {
                sheets[sheet][p] = i;
            }
        }
        return c.size();
    }

    private boolean tells(World x, int[] row, int side) {
        for (int p = 0; p < n(); p++) {
            int fit = 0;
            for (int q = 0; q < n(); q++) {
                fit += x.fit(side, p, q) ? 1 : 0;
            }
            if (row[p] != fit) {
                return false;
            }
        }
        return true;
    }

    long slip(int sheet, int side) {
        if (!in(sheet, 0, 3) || !in(side, 0, 1)) return BAD;
        if (sorts[sheet] == -1) return NOTHING;
        if (sheets[sheet].length < n()) return PLACE;
        if (tells(net, sheets[sheet], side)) return NONE;
        for (int a = 0; a < n(); a++) {
            for (int b = a + 1; b < n(); b++) {
                net.join(a, b, !net.joined(a, b));
                boolean right = tells(net, sheets[sheet], side);
                net.join(a, b, !net.joined(a, b));
                if (right) return 40 * a + b;
            }
        }
        return STATE;
    }

    // ---- texts, lots

    long feed(int n, long v) {
        if (!in(n, 1, 8)) return BAD;
        if (tape.length + n > 160) return FULL;
        byte[] more = Arrays.copyOf(tape, tape.length + n);
        for (int i = 0; i < n; i++) {
            more[tape.length + i] = (byte) (v >> 8 * (7 - i));
        }
        tape = more;
        return tape.length;
    }

    private static final Pattern TOKEN = Pattern.compile("([a-z]+)|([0-9]+)|(;)|([^ ])", Pattern.DOTALL);
    private static final List<String> NAMES = List.of("point", "loud", "shy", "proud", "meek", "lone");

    private static final class Fault extends RuntimeException {
        final int at;

        Fault(int at) {
            this.at = at;
        }
    }

    private static final class Tokens {
        final List<String> texts = new ArrayList<>();
        final List<Integer> places = new ArrayList<>();
        int at = 0;

        String text() {
            return texts.get(at);
        }

        Fault fault() {
            return new Fault(places.get(at));
        }

        String next() {
            return texts.get(at++);
        }
    }

    long text() {
        StringBuilder b = new StringBuilder();
        for (byte c : tape) {
            b.append((char) (c & 255));
        }
        tape = new byte[0];
        Tokens t = new Tokens();
        Matcher m = TOKEN.matcher(b);
        while (m.find()) {
            t.texts.add(m.group());
            t.places.add(m.start());
        }
        t.texts.add("");
        t.places.add(b.length());
        World then = net.twin();
        try {
            int statements = 0;
            while (true) {
                statement(t, then);
                statements++;
                if (t.text().isEmpty()) {
                    net = then;
                    return statements;
                }
                if (!t.text().equals(";")) {
                    throw t.fault();
                }
                t.next();
            }
        } catch (Fault f) {
            return -100 - f.at;
        }
    }

    private static int number(Tokens t, int least, int most, int but) {
        if (!t.text().matches("[0-9]{1,2}")) {
            throw t.fault();
        }
        int v = Integer.parseInt(t.text());
        if (v < least || v > most || v == but) {
            throw t.fault();
        }
        t.next();
        return v;
    }

    private static void statement(Tokens t, World x) {
        String verb = t.text();
        int last = x.points.size() - 1;
        if (verb.equals("point")) {
            if (last == 39) {
                throw t.fault();
            }
            t.next();
            int kind = NAMES.indexOf(t.text());
            if (kind < 0) {
                throw t.fault();
            }
            t.next();
            x.points.add(new int[] {kind, number(t, 0, 99, -1)});
        } else if (verb.equals("join") || verb.equals("cut")) {
            t.next();
            int a = number(t, 0, last, -1);
            x.join(a, number(t, 0, last, a), verb.equals("join"));
        } else if (verb.equals("all") || verb.equals("ring") || verb.equals("flip")) {
            t.next();
            int a = number(t, 0, last, -1);
            int b = number(t, a + 1, last, -1);
            for (int i = a; i <= b; i++) {
                if (verb.equals("ring")) {
                    x.join(i, i == b ? a : i + 1, true);
                    continue;
                }
                for (int j = i + 1; j <= b; j++) {
                    x.join(i, j, verb.equals("all") || !x.joined(i, j));
                }
            }
        } else {
            throw t.fault();
        }
    }

    private int z;

    private int draw() {
        z = z * 1103515245 + 12345;
        return z >>> 8;
    }

    long deal(int seed, int n, int odds) {
        if (!in(n, 1, 40) || !in(odds, 0, 10)) return BAD;
        if (n() + n > 40) return FULL;
        z = seed;
        for (int i = 0; i < n; i++) {
            int kind = draw() % 6;
            int figure = draw() % 100;
            net.points.add(new int[] {kind, figure});
            for (int q = 0; q < n() - 1; q++) {
                net.join(q, n() - 1, draw() % 10 < odds);
            }
        }
        return n();
    }

    long mean(int seed, int m, int n, int odds, int part) {
        if (!in(m, 1, 12) || !in(n, 0, 10) || !in(odds, 0, 10) || !in(part, 0, 1)) return BAD;
        z = seed;
        int sum = 0;
        for (int i = 0; i < m; i++) {
            World x = new World();
            for (int p = 0; p < n; p++) {
                x.points.add(new int[] {0, 0});
                for (int q = 0; q < p; q++) {
                    x.join(q, p, draw() % 10 < odds);
                }
            }
            sum += greatestMeasure(x, 0, 0, (1L << n) - 1);
        }
        int below = m;
        for (int d = 2; d <= m; d++) {
            while (sum % d == 0 && below % d == 0) {
                sum /= d;
                below /= d;
            }
        }
        return part == 0 ? sum : below;
    }

    // ---- hands

    long hold(int hand, int sort, long v) {
        if (!in(hand, 0, 3) || !in(sort, 0, 3)) return BAD;
        if (sort == 1 && !isPoint(v) || sort == 2 && !in(v, 0, 4)) return BAD;
        int was = handSort[hand];
        handSort[hand] = sort;
        handValue[hand] = v;
        handPoint[hand] = sort == 1 ? net.points.get((int) v).clone() : null;
        return was;
    }

    long handAs(int hand, int kind) {
        if (!in(hand, 0, 3) || !in(kind, 0, 5)) return BAD;
        if (handSort[hand] == 0) return NOTHING;
        if (handSort[hand] != 1) return KIND;
        List<List<Integer>> lines = List.of(List.of(0), List.of(0, 1), List.of(0, 2), List.of(0, 1, 3), List.of(0, 2, 4), List.of(0, 5));
        return lines.get(handPoint[hand][0]).contains(kind) ? handPoint[hand][1] : KIND;
    }

    long handBound(int hand, int side, int measure, long w) {
        if (!in(hand, 0, 3) || !in(side, 0, 1) || !in(measure, 0, 1) || !isSet(w)) return BAD;
        if (handSort[hand] == 0) return NOTHING;
        if (handSort[hand] != 2) return KIND;
        return boundOf(net, (int) handValue[hand], side, measure, list(w));
    }

    long handLess(int hand, long v) {
        if (!in(hand, 0, 3)) return BAD;
        if (handSort[hand] == 0) return NOTHING;
        if (handSort[hand] != 3) return KIND;
        return handValue[hand] & ~v;
    }

    // ---- sheets, images

    long sheet(int sheet, int sort, int n) {
        if (!in(sheet, 0, 3) || !in(sort, -1, 2)) return BAD;
        if (sort == -1) {
            sorts[sheet] = -1;
            return 1;
        }
        if (n > 60) return BAD;
        if (n < 0) return SIZE;
        sorts[sheet] = sort;
        sheets[sheet] = new int[n];
        return 1;
    }

    long cell(int sheet, int i, int v) {
        if (!in(sheet, 0, 3)) return BAD;
        if (sorts[sheet] == -1) return NOTHING;
        if (!in(i, 0, sheets[sheet].length - 1)) return PLACE;
        int bits = sorts[sheet] == 0 ? 24 : sorts[sheet] == 1 ? 16 : 0;
        return sheets[sheet][i] = v << bits >> bits;
    }

    long read(int sheet, int i) {
        if (!in(sheet, 0, 3)) return BAD;
        if (sorts[sheet] == -1) return NOTHING;
        return in(i, 0, sheets[sheet].length - 1) ? sheets[sheet][i] : PLACE;
    }

    long copy(int from, int i, int to, int j, int n) {
        if (!in(from, 0, 3) || !in(to, 0, 3)) return BAD;
        if (sorts[from] == -1 || sorts[to] == -1) return NOTHING;
        if (sorts[from] != sorts[to]) return KIND;
        if (n < 0 || i < 0 || j < 0 || (long) i + n > sheets[from].length || (long) j + n > sheets[to].length) return PLACE;
        int[] were = sheets[from].clone();
        for (int k = 0; k < n; k++) {
            sheets[to][j + k] = were[i + k];
        }
        return n;
    }

    long image() {
        kept = net.twin();
        return n();
    }

    long back() {
        if (kept == null) return STATE;
        net = kept.twin();
        return n();
    }

    long count(int what) {
        switch (what) {
            case 0: return n();
            case 1: return net.joins.size();
            case 2: return tape.length;
            case 3: return theProof == null ? 0 : theProof.size();
            default: return BAD;
        }
    }
}
