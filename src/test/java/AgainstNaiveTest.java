import java.lang.reflect.Method;
import java.lang.reflect.Modifier;
import java.util.ArrayList;
import java.util.Comparator;
import java.util.List;
import java.util.Random;

/** Runs of calls by lot on the class and on Naive: the answers must be alike. */
public final class AgainstNaiveTest {
    private static final String[] PIECES = {"point", "loud", "shy", "proud", "meek", "lone", "join", "cut", "all", "ring", "flip",
        ";", ";", " ", "  ", "0", "1", "2", "3", "5", "07", "10", "39", "40", "99", "100", "A", "poin", "joins", "\u00e9"};
    private static final java.util.TreeMap<String, Integer> TALLY = new java.util.TreeMap<>();
    /** What an object answers behind its 512th call is free; one round makes at most some seventy. */
    private static final int MOST_CALLS = 430;
    private static int wrong = 0;

    public static void main(String[] args) throws Exception {
        int runs = args.length > 1 ? Integer.parseInt(args[1]) : 700;
        long calls = 0;
        for (int run = 0; run < runs && wrong < 20; run++) {
            calls += run(run);
        }
        for (int seed = 0; seed < 12; seed++) {
            calls += searches(seed);
        }
        if (args.length > 2) {
            System.out.println(TALLY);
        }
        System.out.println(runs + " runs, " + calls + " calls, " + wrong + " wrong");
        if (wrong != 0) {
            System.exit(1);
        }
    }

    private static List<Method> face() {
        List<Method> face = new ArrayList<>();
        for (Method m : FittingRings.class.getDeclaredMethods()) {
            if (Modifier.isPublic(m.getModifiers())) {
                face.add(m);
            }
        }
        face.sort(Comparator.comparing(Method::getName));
        return face;
    }

    private static final List<Method> FACE = face();

    private static int run(int seed) throws Exception {
        Random r = new Random(seed);
        FittingRings x = new FittingRings();
        Naive y = new Naive();
        StringBuilder log = new StringBuilder();
        int calls = 0;
        int most = r.nextInt(4) == 0 ? 40 : 3 + r.nextInt(14);
        for (int i = 0; i < 120 && calls < MOST_CALLS; i++) {
            int n = y.n();
            if (n < most && r.nextInt(6) == 0) {
                calls += compare(seed, log, x, y, named("deal"), new Object[] {r.nextInt(), 1 + r.nextInt(most - n), r.nextInt(11)});
                continue;
            }
            if (r.nextInt(8) == 0) {
                calls += feedText(seed, log, x, y, sentence(r, n));
                continue;
            }
            Method m = FACE.get(r.nextInt(FACE.size()));
            if (m.getName().equals("deal") && r.nextInt(4) != 0) {
                continue;
            }
            Object[] given = arguments(r, m, x, y);
            calls += compare(seed, log, x, y, m, given);
            if (m.getName().equals("prove") && r.nextBoolean()) {
                calls += proofBySheet(seed, log, x, y, r, given);
            }
            if (r.nextInt(12) == 0) {
                calls += degreesBySheet(seed, log, x, y, r);
            }
        }
        for (int w = 0; w < 4; w++) {
            calls += compare(seed, log, x, y, named("count"), new Object[] {w});
        }
        return calls;
    }

    /** Sets as great as may be searched, somewhere in a net of forty. */
    private static int searches(int seed) throws Exception {
        Random r = new Random(seed);
        FittingRings x = new FittingRings();
        Naive y = new Naive();
        StringBuilder log = new StringBuilder();
        int calls = compare(seed, log, x, y, named("deal"), new Object[] {seed, 40, 1 + seed % 9});
        long w = (1L << 40) - 1;
        while (Long.bitCount(w) > 16 - seed % 3) {
            w &= ~(1L << r.nextInt(40));
        }
        for (int side = 0; side < 2; side++) {
            for (int k = -1; k < 40; k++) {
                calls += compare(seed, log, x, y, named("grown"), new Object[] {side, w, k});
            }
            for (int measure = 0; measure < 2; measure++) {
                calls += compare(seed, log, x, y, named("greatest"), new Object[] {side, measure, w});
                for (int what = 0; what < 3; what++) {
                    calls += compare(seed, log, x, y, named("all"), new Object[] {side, measure, w, what});
                }
                for (int more = 0; more < 2; more++) {
                    calls += compare(seed, log, x, y, named("turning"), new Object[] {side, measure, w, more});
                }
            }
        }
        return calls;
    }

    private static Method named(String name) {
        for (Method m : FACE) {
            if (m.getName().equals(name)) {
                return m;
            }
        }
        throw new IllegalStateException(name);
    }

    private static int compare(int seed, StringBuilder log, FittingRings x, Naive y, Method m, Object[] given) throws Exception {
        Method other = Naive.class.getDeclaredMethod(m.getName(), m.getParameterTypes());
        long got = ((Number) m.invoke(x, given)).longValue();
        long want = ((Number) other.invoke(y, given)).longValue();
        log.append(m.getName()).append(java.util.Arrays.toString(given)).append(" = ").append(want).append('\n');
        TALLY.merge(m.getName() + " " + (want < 0 && want > -15 ? want : want < 0 ? "below" : "right"), 1, Integer::sum);
        if (got != want) {
            wrong++;
            System.out.println("run " + seed + ": answered " + got + " at the end of\n" + log);
        }
        return 1;
    }

    /** A proof that was made, with up to two cells changed, the last cells cut off, or one too many. */
    private static int proofBySheet(int seed, StringBuilder log, FittingRings x, Naive y, Random r, Object[] claim) throws Exception {
        int calls = compare(seed, log, x, y, named("writes"), new Object[] {0});
        for (int i = r.nextInt(3); i > 0; i--) {
            calls += compare(seed, log, x, y, named("cell"), new Object[] {0, r.nextInt(12), r.nextInt(12) - 1});
        }
        if (r.nextInt(3) == 0 && y.theProof != null) {
            int n = Math.max(0, y.theProof.size() + r.nextInt(3) - 1);
            calls += compare(seed, log, x, y, named("sheet"), new Object[] {1, 1, n});
            calls += compare(seed, log, x, y, named("copy"), new Object[] {0, 0, 1, 0, Math.min(n, y.theProof.size())});
            calls += compare(seed, log, x, y, named("check"), new Object[] {1, claim[0], claim[1], claim[2], claim[3], claim[4]});
        }
        return calls + compare(seed, log, x, y, named("check"), new Object[] {0, claim[0], claim[1], claim[2], claim[3], claim[4]});
    }

    /** What would be told of how many fit each point, if two, or some more, were turned. */
    private static int degreesBySheet(int seed, StringBuilder log, FittingRings x, Naive y, Random r) throws Exception {
        int side = r.nextInt(2);
        int calls = compare(seed, log, x, y, named("sheet"), new Object[] {2, r.nextInt(3), y.n()});
        int[] fit = new int[y.n()];
        for (int p = 0; p < fit.length; p++) {
            fit[p] = Long.bitCount(y.near(side, p, (1L << y.n()) - 1));
        }
        for (int t = r.nextInt(3); t > 0 && fit.length > 1; t--) {
            int a = r.nextInt(fit.length);
            int b = (a + 1 + r.nextInt(fit.length - 1)) % fit.length;
            int change = r.nextInt(5) == 0 ? 1 : y.net.fit(side, a, b) ? -1 : 1;
            fit[a] += change;
            fit[b] += change;
        }
        for (int p = 0; p < fit.length; p++) {
            calls += compare(seed, log, x, y, named("cell"), new Object[] {2, p, fit[p]});
        }
        return calls + compare(seed, log, x, y, named("slip"), new Object[] {2, side});
    }

    private static int feedText(int seed, StringBuilder log, FittingRings x, Naive y, String s) throws Exception {
        int calls = 0;
        for (int i = 0; i < s.length(); i += 8) {
            long v = 0;
            for (int j = 0; j < 8; j++) {
                v = v << 8 | (i + j < s.length() ? s.charAt(i + j) & 255 : 0);
            }
            calls += compare(seed, log, x, y, named("feed"), new Object[] {Math.min(8, s.length() - i), v});
        }
        log.append("text: ").append(s).append('\n');
        return calls + compare(seed, log, x, y, named("text"), new Object[0]);
    }

    private static String sentence(Random r, int n) {
        StringBuilder b = new StringBuilder();
        int many = 1 + r.nextInt(5);
        for (int i = 0; i < many; i++) {
            b.append(i > 0 ? r.nextBoolean() ? ";" : " ; " : "");
            if (r.nextInt(4) == 0) {
                b.append("point ").append(PIECES[r.nextInt(6)]).append(r.nextBoolean() ? " " : "").append(r.nextInt(100));
            } else {
                int p = r.nextInt(n + 1);
                b.append(PIECES[6 + r.nextInt(5)]).append(' ').append(p).append("  ").append(r.nextInt(n + 2));
            }
        }
        for (int i = r.nextInt(6) - 4; i > 0; i--) {
            int at = r.nextInt(b.length() + 1);
            b.insert(at, PIECES[r.nextInt(PIECES.length)]);
        }
        if (r.nextInt(10) == 0) {
            b.setLength(r.nextInt(b.length() + 1));
        }
        return b.toString();
    }

    private static Object[] arguments(Random r, Method m, FittingRings x, Naive y) {
        Class<?>[] types = m.getParameterTypes();
        Object[] given = new Object[types.length];
        List<Integer> roles = ROLES.getOrDefault(m.getName(), List.of());
        for (int i = 0; i < types.length; i++) {
            if (types[i] == long.class) {
                given[i] = aSet(r, m.getName(), y);
            } else {
                given[i] = anInt(r, roles.get(i), y);
            }
        }
        if (m.getName().equals("better") && r.nextInt(5) != 0) {
            long w = (Long) given[2];
            given[1] = y.isSet(w) ? w & y.taken(1 - r.nextInt(2), (1L << y.n()) - 1) : 0L;
        }
        int claim = m.getName().equals("prove") ? 0 : m.getName().equals("check") ? 1 : -1;
        if (claim >= 0 && r.nextInt(5) != 0) {
            given[claim + 3] = aCeiling(r, y, given, claim);
        }
        if (m.getName().equals("hold") && r.nextInt(3) != 0) {
            given[2] = (long) r.nextInt(6);
        }
        return given;
    }

    /** Between what a ring that is there has and what the rule tells: there proofs branch. */
    private static int aCeiling(Random r, Naive y, Object[] given, int at) {
        int side = (Integer) given[at + 1];
        int measure = (Integer) given[at + 2];
        long w = (Long) given[at + 4];
        int most = (int) y.bound((Integer) given[at], side, measure, w);
        if (most < 0) {
            return 3;
        }
        int least = (int) y.measure(measure, y.taken(side, w));
        return Math.max(0, least + r.nextInt(Math.max(1, most - least + 1)) - r.nextInt(2));
    }

    /** Searching asks small sets, or Naive takes too long. */
    private static final List<String> SMALL = List.of("greatest", "grown", "all", "turning", "fewest");

    private static long aSet(Random r, String name, Naive y) {
        long whole = (1L << y.n()) - 1;
        int dice = r.nextInt(20);
        if (dice == 0) {
            return r.nextLong();
        }
        if (dice == 1) {
            return 1L << y.n();
        }
        long w = dice < 8 ? whole : whole & r.nextLong();
        int most = name.equals("turning") ? 7 : name.equals("fewest") ? 8 : 11;
        while (SMALL.contains(name) && Long.bitCount(w) > most && r.nextInt(300) != 0) {
            w &= r.nextLong() | r.nextLong();
        }
        return w;
    }

    private static int anInt(Random r, int most, Naive y) {
        int dice = r.nextInt(60);
        if (dice == 0) {
            return r.nextInt();
        }
        if (dice == 1) {
            return -1 - r.nextInt(3);
        }
        if (dice == 2) {
            return Math.abs(most) + 1;
        }
        if (most == P) {
            return y.n() == 0 ? 0 : r.nextInt(y.n());
        }
        if (most < 0) {
            return r.nextInt(-most + 2) - 1;
        }
        return r.nextInt(most + 1);
    }

    private static final int P = 1000;
    /** For each int the greatest that is right; P a point; below 0: from -1 on. A long's entry does not count. */
    private static final java.util.Map<String, List<Integer>> ROLES = java.util.Map.ofEntries(
        java.util.Map.entry("point", List.of(5, 99)), java.util.Map.entry("told", List.of(P, 3)),
        java.util.Map.entry("set", List.of(P, 99)), java.util.Map.entry("turns", List.of(P, 5)),
        java.util.Map.entry("join", List.of(P, P, 1)), java.util.Map.entry("mesh", List.of(0, 1)),
        java.util.Map.entry("near", List.of(1, P, 0)), java.util.Map.entry("measure", List.of(1, 0)),
        java.util.Map.entry("isRing", List.of(1, 0)), java.util.Map.entry("order", List.of(1, 0, -12)),
        java.util.Map.entry("classes", List.of(1, 0, -6)), java.util.Map.entry("taken", List.of(1, 0)),
        java.util.Map.entry("left", List.of(1, 1, 0)), java.util.Map.entry("bound", List.of(4, 1, 1, 0)),
        java.util.Map.entry("core", List.of(1, 8, 0)), java.util.Map.entry("greatest", List.of(1, 1, 0)),
        java.util.Map.entry("grown", List.of(1, 0, -6)), java.util.Map.entry("all", List.of(1, 1, 0, 2)),
        java.util.Map.entry("turning", List.of(1, 1, 0, 1)), java.util.Map.entry("fewest", List.of(1, 0)),
        java.util.Map.entry("better", List.of(1, 0, 0)), java.util.Map.entry("prove", List.of(4, 1, 1, 9, 0)),
        java.util.Map.entry("proof", List.of(9)), java.util.Map.entry("check", List.of(3, 4, 1, 1, 9, 0)),
        java.util.Map.entry("writes", List.of(3)), java.util.Map.entry("cover", List.of(3, 1, 1, 0)),
        java.util.Map.entry("film", List.of(3, 1, 0)), java.util.Map.entry("slip", List.of(3, 1)),
        java.util.Map.entry("feed", List.of(8, 0)), java.util.Map.entry("text", List.of()),
        java.util.Map.entry("deal", List.of(99, 40, 10)), java.util.Map.entry("mean", List.of(99, 12, 7, 10, 1)),
        java.util.Map.entry("hold", List.of(3, 3, 0)), java.util.Map.entry("handAs", List.of(3, 5)),
        java.util.Map.entry("handBound", List.of(3, 1, 1, 0)), java.util.Map.entry("handLess", List.of(3, 0)),
        java.util.Map.entry("sheet", List.of(3, -2, 60)), java.util.Map.entry("cell", List.of(3, 20, 999)),
        java.util.Map.entry("read", List.of(3, 20)), java.util.Map.entry("copy", List.of(3, 20, 3, 20, 20)),
        java.util.Map.entry("count", List.of(3)));
}
