import java.util.IdentityHashMap;
import java.util.LinkedHashMap;
import java.util.Map;
import java.util.Set;
import java.util.TreeSet;

/**
 * For tests of boundary cases: objects in known states, and all that can be seen of an object, part by part,
 * so that it can be told whether a call has changed anything. Every object stays below the 512 calls that are promised.
 */
abstract class EdgeBench {
    static final int NONE = -1, BAD = -2, STATE = -3, FULL = -4, MUCH = -5, NOTHING = -11, PLACE = -12, KIND = -13, SIZE = -14;
    static final int MIN = Integer.MIN_VALUE, MAX = Integer.MAX_VALUE;
    static final long FORTY = (1L << 40) - 1;
    /** The set of all points of BUSY. */
    static final long SIX = 63;
    private static final int MOST_TO_SEE = 440;

    interface Call {
        long on(FittingRings x);
    }

    interface IntCall {
        long on(FittingRings x, int v);
    }

    interface LongCall {
        long on(FittingRings x, long v);
    }

    interface Maker {
        FittingRings make();
    }

    static final Maker BARE = FittingRings::new;
    static final Maker BUSY = EdgeBench::busy;
    static final Maker FILLED = EdgeBench::filled;

    private static final Map<Maker, Map<String, String>> SEEN = new IdentityHashMap<>();
    private static int asked = 0;
    private static int wrong = 0;

    // ---- what is due

    static void due(String sentence, long got, long want) {
        asked++;
        if (got != want) {
            wrong++;
            System.out.println(sentence + ": answered " + got + ", due is " + want);
        }
    }

    /** The call answers so and changes nothing: one that is refused, or asked in thought. */
    static void keeps(String sentence, Maker maker, long want, Call call) {
        changes(sentence, maker, want, call);
    }

    /** The call answers so and changes these parts and no others. */
    static void changes(String sentence, Maker maker, long want, Call call, String... parts) {
        FittingRings x = maker.make();
        due(sentence, call.on(x), want);
        Map<String, String> before = SEEN.computeIfAbsent(maker, m -> seen(m.make()));
        Map<String, String> after = seen(x);
        Set<String> changed = new TreeSet<>();
        for (String part : before.keySet()) {
            if (!before.get(part).equals(after.get(part))) {
                changed.add(part);
            }
        }
        asked++;
        if (!changed.equals(new TreeSet<>(Set.of(parts)))) {
            wrong++;
            System.out.println(sentence + ": changed " + changed + ", due is " + Set.of(parts));
        }
    }

    static void refuses(String sentence, Maker maker, long want, IntCall call, int... values) {
        for (int v : values) {
            keeps(sentence + " [" + v + "]", maker, want, x -> call.on(x, v));
        }
    }

    static void refusesLong(String sentence, Maker maker, long want, LongCall call, long... values) {
        for (long v : values) {
            keeps(sentence + " [" + v + "]", maker, want, x -> call.on(x, v));
        }
    }

    /** The first ints that are not taken on either end, and the last that there are. */
    static int[] beyond(int least, int most) {
        return new int[] {least - 1, most + 1, MIN, MAX};
    }

    /** Longs with a bit beyond n points. */
    static long[] noSets(int n) {
        return new long[] {1L << n, 1L << n | (1L << n) - 1, 1L << 40, 1L << 62, Long.MIN_VALUE, -1};
    }

    static void end() {
        System.out.println(asked + " answers, " + wrong + " wrong");
        if (wrong != 0) {
            System.exit(1);
        }
    }

    // ---- objects

    /** n points of kind 0, figure 1, joined to none. */
    static FittingRings plain(int n) {
        FittingRings x = new FittingRings();
        for (int i = 0; i < n; i++) {
            x.point(0, 1);
        }
        return x;
    }

    /** Each of a first row of points is joined to each of a second; then some that all fit, some joined to none. */
    static FittingRings rows(int first, int second, int mesh, int loners) {
        FittingRings x = plain(first + second + mesh + loners);
        long ahead = (1L << first) - 1;
        long behind = ((1L << second) - 1) << first;
        x.mesh(ahead | behind, 1);
        x.mesh(ahead, 0);
        x.mesh(behind, 0);
        x.mesh(((1L << mesh) - 1) << (first + second), 1);
        return x;
    }

    static void row(FittingRings x, int sheet, int sort, int... numbers) {
        x.sheet(sheet, sort, numbers.length);
        for (int i = 0; i < numbers.length; i++) {
            x.cell(sheet, i, numbers[i]);
        }
    }

    /** Bytes of a text come to the tape, eight at a time. */
    static void write(FittingRings x, String text) {
        for (int i = 0; i < text.length(); i += 8) {
            long v = 0;
            for (int j = 0; j < 8; j++) {
                v = v << 8 | (i + j < text.length() ? text.charAt(i + j) & 255 : 'x');
            }
            x.feed(Math.min(8, text.length() - i), v);
        }
    }

    static int say(FittingRings x, String text) {
        write(x, text);
        return x.text();
    }

    /**
     * Six points of the six kinds: 0, 1, 2 are joined to one another, 2 to 3, 3 to 4, and 5 to none; the image has five,
     * without the join of 3 and 4; a proof of five nodes, eight bytes of the tape; hands with a point, a rule, a set and
     * nothing; rows of bytes, shorts and ints and a sheet that is missing.
     */
    private static FittingRings busy() {
        FittingRings x = new FittingRings();
        int[] figures = {9, 8, 7, 6, 50};
        for (int kind = 0; kind < 5; kind++) {
            x.point(kind, figures[kind]);
        }
        x.mesh(7, 1);
        x.join(2, 3, 1);
        x.image();
        x.prove(0, 0, 0, 3, 15);
        x.point(5, 3);
        x.join(3, 4, 1);
        x.hold(0, 1, 3);
        x.hold(1, 2, 4);
        x.hold(2, 3, Long.MIN_VALUE | 6);
        row(x, 0, 0, 5, -7, 100, 0);
        row(x, 1, 1, 300, -300, 7);
        row(x, 2, 2, 70000, -70000, 1, 2, 3, 4);
        write(x, "flip 1 4");
        return x;
    }

    /** Forty points joined to none, 160 bytes of the tape, a proof of 79 nodes, a sheet with a place less than points. */
    private static FittingRings filled() {
        FittingRings x = new FittingRings();
        x.deal(7, 40, 0);
        x.image();
        x.prove(0, 0, 0, 1, FORTY);
        x.hold(0, 1, 39);
        x.hold(1, 2, 4);
        x.hold(2, 3, -1);
        x.sheet(0, 0, 39);
        x.sheet(1, 1, 1);
        x.sheet(2, 2, 40);
        StringBuilder text = new StringBuilder();
        for (int i = 0; i < 19; i++) {
            text.append("join0 1;");
        }
        write(x, text.append("join 0 1").toString());
        return x;
    }

    // ---- what can be seen of an object

    private static final class Eye {
        final FittingRings x;
        final Map<String, String> parts = new LinkedHashMap<>();
        StringBuilder part = new StringBuilder();
        int calls = 0;

        Eye(FittingRings x) {
            this.x = x;
        }

        long see(long answer) {
            calls++;
            part.append(answer).append(' ');
            return answer;
        }

        void close(String name) {
            parts.put(name, part.toString());
            part = new StringBuilder();
        }

        void net() {
            int n = (int) see(x.count(0));
            long whole = (1L << n) - 1;
            see(x.count(1));
            for (int p = 0; p < n; p++) {
                see(x.told(p, 0));
                see(x.told(p, 1));
                see(x.near(0, p, whole));
            }
        }

        /** As net(), where so many calls are too many. */
        void netFromAfar() {
            if (x.count(0) <= 10) {
                net();
                return;
            }
            long whole = (1L << x.count(0)) - 1;
            see(x.count(0));
            see(x.count(1));
            see(x.measure(1, whole));
            see(x.near(0, 0, whole));
            see(x.core(0, 1, whole));
        }

        void sheet(int s) {
            long answer = 0;
            for (int i = 0; i < 60 && answer != PLACE && answer != NOTHING; i++) {
                answer = see(x.read(s, i));
            }
        }

        /** Which sheets are of like sorts. */
        void sorts() {
            for (int s = 0; s < 4; s++) {
                for (int other = 0; other < 4; other++) {
                    see(x.copy(s, 0, other, 0, 0));
                }
            }
        }

        void hand(int h) {
            for (int kind = 0; kind < 6; kind++) {
                see(x.handAs(h, kind));
            }
            see(x.handLess(h, 0));
            long whole = (1L << x.count(0)) - 1;
            for (int side = 0; side < 2; side++) {
                see(x.handBound(h, side, 0, whole));
                see(x.handBound(h, side, 1, whole));
            }
        }
    }

    /** The image, a rule that a hand holds and the tape are seen by what they do: last, and on the net of the image. */
    private static Map<String, String> seen(FittingRings x) {
        Eye eye = new Eye(x);
        eye.net();
        eye.close("net");
        int nodes = (int) eye.see(x.count(3));
        for (int i = 0; i <= nodes; i++) {
            eye.see(x.proof(i));
        }
        eye.close("proof");
        for (int s = 0; s < 4; s++) {
            eye.sheet(s);
            eye.close("sheet" + s);
        }
        eye.sorts();
        eye.close("sorts");
        eye.see(x.back());
        eye.netFromAfar();
        eye.close("image");
        for (int h = 0; h < 4; h++) {
            eye.hand(h);
            eye.close("hand" + h);
        }
        eye.see(x.count(2));
        eye.see(x.text());
        eye.netFromAfar();
        eye.close("tape");
        if (eye.calls > MOST_TO_SEE) {
            throw new IllegalStateException("too many calls: " + eye.calls);
        }
        return eye.parts;
    }
}
