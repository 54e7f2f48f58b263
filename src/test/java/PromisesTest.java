/** Each promise of the document by itself, with answers worked out by hand from its words. */
public final class PromisesTest {
    private static final int NONE = -1, BAD = -2, STATE = -3, FULL = -4, MUCH = -5, NOTHING = -11, PLACE = -12, KIND = -13, SIZE = -14;
    private static final long FORTY = (1L << 40) - 1;
    private static int wrong = 0;
    private static int asked = 0;

    private static void due(String what, long got, long want) {
        asked++;
        if (got != want) {
            wrong++;
            System.out.println(what + " answered " + got + ", due is " + want);
        }
    }

    public static void main(String[] args) {
        newObject();
        points();
        weights();
        changes();
        joinsAndMeshes();
        nearMeasureRing();
        orders();
        bounds();
        cores();
        greatestAndGrown();
        manyGrown();
        turnings();
        fewestAndBetter();
        proofs();
        proofLimits();
        checks();
        writing();
        covers();
        films();
        slips();
        feeds();
        texts();
        textFaults();
        lots();
        hands();
        sheets();
        copies();
        images();
        counts();
        System.out.println(asked + " answers, " + wrong + " wrong");
        if (wrong != 0) {
            System.exit(1);
        }
    }

    /** n points of kind 0, each of figure 1, joined to none. */
    private static FittingRings plain(int n) {
        FittingRings x = new FittingRings();
        for (int i = 0; i < n; i++) {
            x.point(0, 1);
        }
        return x;
    }

    /** 0, 1, 2 joined to one another, 3 to 2. */
    private static FittingRings kite() {
        FittingRings x = plain(4);
        x.mesh(7, 1);
        x.join(2, 3, 1);
        return x;
    }

    /** Five in a round, figures 1 to 5. */
    private static FittingRings round() {
        FittingRings x = plain(5);
        for (int i = 0; i < 5; i++) {
            x.join(i, (i + 1) % 5, 1);
            x.set(i, i + 1);
        }
        return x;
    }

    private static int say(FittingRings x, String text) {
        for (int i = 0; i < text.length(); i += 8) {
            int n = Math.min(8, text.length() - i);
            long v = 0;
            for (int j = 0; j < 8; j++) {
                v = v << 8 | (j < n ? text.charAt(i + j) : 0);
            }
            x.feed(n, v);
        }
        return x.text();
    }

    private static void row(FittingRings x, int sheet, int sort, int... numbers) {
        x.sheet(sheet, sort, numbers.length);
        for (int i = 0; i < numbers.length; i++) {
            x.cell(sheet, i, numbers[i]);
        }
    }

    // promise 1
    private static void newObject() {
        FittingRings x = new FittingRings();
        FittingRings other = new FittingRings();
        other.deal(1, 9, 5);
        other.feed(1, 5);
        other.image();
        other.sheet(0, 1, 3);
        other.hold(0, 3, 9);
        other.prove(0, 0, 0, 40, 0);
        for (int what = 0; what < 4; what++) {
            due("1 count(" + what + ") of a new object", x.count(what), 0);
        }
        due("1 told(0, 0) of a new object", x.told(0, 0), BAD);
        due("1 back() of a new object", x.back(), STATE);
        due("1 proof(0) of a new object", x.proof(0), PLACE);
        for (int i = 0; i < 4; i++) {
            due("1 read of a new object", x.read(i, 0), NOTHING);
            due("1 handLess of a new object", x.handLess(i, 0), NOTHING);
        }
    }

    // promise 2
    private static void points() {
        FittingRings x = new FittingRings();
        due("2 least point", x.point(0, 0), 0);
        due("2 greatest point", x.point(5, 99), 1);
        due("2 kind -1", x.point(-1, 0), BAD);
        due("2 kind 6", x.point(6, 0), BAD);
        due("2 figure -1", x.point(0, -1), BAD);
        due("2 figure 100", x.point(0, 100), BAD);
        due("2 nothing came of that", x.count(0), 2);
        for (int i = 2; i < 40; i++) {
            due("2 number", x.point(i % 6, i), i);
        }
        due("2 a 41st", x.point(0, 0), FULL);
        due("2 a 41st that is bad", x.point(6, 0), BAD);
        due("2 still 40", x.count(0), 40);
        due("2 joined to none", x.told(39, 3), 0);
    }

    // promise 3
    private static void weights() {
        FittingRings x = new FittingRings();
        int[] alone = {9, 18, 9, 18, 4, 9};
        int[] amongSix = {9, 18, 4, 23, 2, 1};
        for (int kind = 0; kind < 6; kind++) {
            x.point(kind, 9);
        }
        for (int p = 0; p < 6; p++) {
            due("3 kind", x.told(p, 0), p);
            due("3 figure", x.told(p, 1), 9);
            due("3 weight alone", x.told(p, 2), alone[p]);
            due("3 joined to none", x.told(p, 3), 0);
        }
        x.mesh(63, 1);
        for (int p = 0; p < 6; p++) {
            due("3 weight among six", x.told(p, 2), amongSix[p]);
            due("3 joined to five", x.told(p, 3), 5);
        }
        x.set(2, 3);
        x.set(4, 3);
        due("3 a shy one is 0 at least", x.told(2, 2), 0);
        due("3 a meek one is 0 at least", x.told(4, 2), 0);
        due("3 no such point", x.told(6, 0), BAD);
        due("3 point -1", x.told(-1, 0), BAD);
        due("3 what 4", x.told(0, 4), BAD);
        due("3 what -1", x.told(0, -1), BAD);
    }

    // promises 4, 5
    private static void changes() {
        FittingRings x = new FittingRings();
        x.point(1, 7);
        due("4 what it was", x.set(0, 99), 7);
        due("4 what it is", x.told(0, 1), 99);
        due("4 weight", x.told(0, 2), 198);
        due("4 figure 100", x.set(0, 100), BAD);
        due("4 figure -1", x.set(0, -1), BAD);
        due("4 no such point", x.set(1, 0), BAD);
        due("4 point -1", x.set(-1, 0), BAD);
        due("4 nothing came of that", x.told(0, 1), 99);
        due("5 which it was", x.turns(0, 4), 1);
        due("5 which it is", x.told(0, 0), 4);
        due("5 weight", x.told(0, 2), 49);
        due("5 kind 6", x.turns(0, 6), BAD);
        due("5 kind -1", x.turns(0, -1), BAD);
        due("5 no such point", x.turns(1, 0), BAD);
        due("5 the same kind", x.turns(0, 4), 4);
    }

    // promises 6, 7
    private static void joinsAndMeshes() {
        FittingRings x = plain(4);
        due("6 as it was", x.join(2, 1, 1), 0);
        due("6 as it was then", x.join(1, 2, 1), 1);
        due("6 joined once", x.count(1), 1);
        due("6 off", x.join(2, 1, 0), 1);
        due("6 off again", x.join(2, 1, 0), 0);
        due("6 none", x.count(1), 0);
        due("6 one and the same", x.join(1, 1, 1), BAD);
        due("6 no such", x.join(1, 4, 1), BAD);
        due("6 no such ahead", x.join(-1, 1, 1), BAD);
        due("6 on 2", x.join(0, 1, 2), BAD);
        due("6 on -1", x.join(0, 1, -1), BAD);
        due("7 all new", x.mesh(7, 1), 3);
        due("7 half new", x.mesh(15, 1), 3);
        due("7 none new", x.mesh(15, 1), 0);
        due("7 off", x.mesh(6, 0), 1);
        due("7 off, some", x.mesh(14, 0), 2);
        due("7 left", x.count(1), 3);
        due("7 of none", x.mesh(0, 1), 0);
        due("7 of one", x.mesh(8, 1), 0);
        due("7 beyond", x.mesh(16, 1), BAD);
        due("7 negative", x.mesh(-1, 1), BAD);
        due("7 on 2", x.mesh(3, 2), BAD);
    }

    // promises 8, 9, 10
    private static void nearMeasureRing() {
        FittingRings x = kite();
        due("8 side 0", x.near(0, 2, 15), 11);
        due("8 side 1", x.near(1, 3, 15), 3);
        due("8 none fits itself", x.near(1, 3, 8), 0);
        due("8 of a set that it is not of", x.near(0, 2, 3), 3);
        due("8 side 2", x.near(2, 0, 1), BAD);
        due("8 no such point", x.near(0, 4, 1), BAD);
        due("8 no such set", x.near(0, 0, 16), BAD);
        x.turns(3, 3);
        x.set(0, 50);
        due("9 how many", x.measure(0, 11), 3);
        due("9 weights", x.measure(1, 9), 53);
        due("9 of none", x.measure(1, 0), 0);
        due("9 measure 2", x.measure(2, 0), BAD);
        due("9 measure -1", x.measure(-1, 0), BAD);
        due("9 no such set", x.measure(0, 16), BAD);
        due("10 a ring", x.isRing(0, 7), 1);
        due("10 no ring", x.isRing(0, 15), 0);
        due("10 by the other side", x.isRing(1, 9), 1);
        due("10 no ring by the other side", x.isRing(1, 12), 0);
        due("10 of one", x.isRing(1, 4), 1);
        due("10 of none", x.isRing(0, 0), 1);
        due("10 side -1", x.isRing(-1, 0), BAD);
        due("10 no such set", x.isRing(0, 1L << 63), BAD);
    }

    // promises 11, 12, 13
    private static void orders() {
        FittingRings x = kite();
        int[] order = {3, 0, 1, 2};
        long[] classes = {4, 10, 1};
        for (int k = 0; k < 4; k++) {
            due("11 order " + k, x.order(0, 15, k), order[k]);
        }
        due("11 depth", x.order(0, 15, -1), 2);
        due("11 k 4", x.order(0, 15, 4), PLACE);
        due("11 k -2", x.order(0, 15, -2), PLACE);
        due("11 depth of none", x.order(1, 0, -1), 0);
        due("11 side 2", x.order(2, 15, 9), BAD);
        due("11 no such set", x.order(0, 16, 9), BAD);
        for (int k = 0; k < 3; k++) {
            due("12 class " + k, x.classes(0, 15, k), classes[k]);
        }
        due("12 how many", x.classes(0, 15, -1), 3);
        due("12 k 3", x.classes(0, 15, 3), PLACE);
        due("12 k -2", x.classes(0, 15, -2), PLACE);
        due("12 of none", x.classes(0, 0, -1), 0);
        due("12 side -1", x.classes(-1, 15, 9), BAD);
        due("12 no such set", x.classes(0, 32, 9), BAD);
        due("13 taken", x.taken(0, 15), 7);
        due("13 taken of none", x.taken(0, 0), 0);
        due("13 side 2", x.taken(2, 0), BAD);
        due("13 no such set", x.taken(0, 16), BAD);
        FittingRings path = plain(4);
        path.join(0, 1, 1);
        path.join(1, 2, 1);
        path.join(2, 3, 1);
        int[] bySide1 = {1, 2, 0, 3};
        for (int k = 0; k < 4; k++) {
            due("11 path " + k, path.order(0, 15, k), k);
            due("11 path by side 1 " + k, path.order(1, 15, k), bySide1[k]);
        }
        due("11 depth of a path", path.order(0, 15, -1), 1);
        due("13 taken of a path", path.taken(0, 15), 12);
        due("13 taken of a path by side 1", path.taken(1, 15), 9);
    }

    // promises 14, 15
    private static void bounds() {
        FittingRings x = kite();
        int[] ofKite = {4, 3, 3, 3, 3};
        for (int rule = 0; rule < 5; rule++) {
            due("15 kite " + rule, x.bound(rule, 0, 0, 15), ofKite[rule]);
            due("15 of none " + rule, x.bound(rule, 0, 1, 0), 0);
            due("15 of one " + rule, x.bound(rule, 1, 0, 8), 1);
        }
        due("14 kite", x.left(0, 0, 15), 0);
        // a light three and a heavy two: the order takes the light ones
        FittingRings y = plain(5);
        y.mesh(7, 1);
        y.mesh(24, 1);
        y.set(3, 50);
        y.set(4, 50);
        int[] heavy = {103, 101, 100, 100, 100};
        for (int rule = 0; rule < 5; rule++) {
            due("15 heavy " + rule, y.bound(rule, 0, 1, 31), heavy[rule]);
        }
        due("14 heavy", y.left(0, 1, 31), 24);
        due("14 heavy, by number", y.left(0, 0, 31), 0);
        due("15 heavy, by number", y.bound(3, 0, 0, 31), 3);
        due("14 of none", y.left(0, 0, 0), 0);
        due("14 measure 2", y.left(0, 2, 0), BAD);
        due("14 side 2", y.left(2, 0, 0), BAD);
        due("14 no such set", y.left(0, 0, 32), BAD);
        due("15 rule 5", y.bound(5, 0, 0, 0), BAD);
        due("15 rule -1", y.bound(-1, 0, 0, 0), BAD);
        due("15 side 2", y.bound(0, 2, 0, 0), BAD);
        due("15 measure 2", y.bound(0, 0, 2, 0), BAD);
        due("15 no such set", y.bound(0, 0, 0, 32), BAD);
        // five in a round: the rules differ by number too
        FittingRings z = round();
        due("15 round, colours", z.bound(1, 0, 0, 31), 3);
        due("15 round, core", z.bound(2, 0, 0, 31), 3);
        due("15 round, shrunk", z.bound(3, 0, 0, 31), 3);
        due("14 round", z.left(0, 0, 31), 31);
    }

    // promise 16
    private static void cores() {
        FittingRings x = kite();
        due("16 two", x.core(0, 2, 15), 7);
        due("16 three", x.core(0, 3, 15), 0);
        due("16 none needed", x.core(0, 0, 15), 15);
        due("16 by side 1", x.core(1, 1, 15), 11);
        due("16 f 39", x.core(0, 39, 15), 0);
        due("16 f 40", x.core(0, 40, 15), BAD);
        due("16 f -1", x.core(0, -1, 15), BAD);
        due("16 side 2", x.core(2, 1, 15), BAD);
        due("16 no such set", x.core(0, 1, 16), BAD);
        FittingRings path = plain(6);
        for (int i = 0; i < 5; i++) {
            path.join(i, i + 1, 1);
        }
        due("16 a path goes from its ends", path.core(0, 2, 63), 0);
        due("16 f 1", path.core(0, 1, 47), 15);
    }

    // promises 17, 18, 19
    private static void greatestAndGrown() {
        FittingRings x = round();
        long[] grown = {3, 6, 12, 17, 24};
        for (int k = 0; k < 5; k++) {
            due("18 grown " + k, x.grown(0, 31, k), grown[k]);
        }
        due("18 how many", x.grown(0, 31, -1), 5);
        due("18 k 5", x.grown(0, 31, 5), PLACE);
        due("18 k -2", x.grown(0, 31, -2), PLACE);
        due("18 of none", x.grown(0, 0, 0), 0);
        due("18 how many of none", x.grown(0, 0, -1), 1);
        due("18 side 2", x.grown(2, 31, 9), BAD);
        due("18 no such set", x.grown(0, 32, 9), BAD);
        due("17 least of like ones", x.greatest(0, 0, 31), 3);
        due("17 by weight", x.greatest(0, 1, 31), 24);
        due("17 by side 1", x.greatest(1, 0, 31), 5);
        due("17 of none", x.greatest(1, 1, 0), 0);
        due("17 side", x.greatest(2, 0, 0), BAD);
        due("17 measure", x.greatest(0, 2, 0), BAD);
        due("17 no such set", x.greatest(0, 0, 32), BAD);
        due("19 in each", x.all(0, 0, 31, 0), 0);
        due("19 in any", x.all(0, 0, 31, 1), 31);
        due("19 how many", x.all(0, 0, 31, 2), 5);
        due("19 by weight in each", x.all(0, 1, 31, 0), 24);
        due("19 by weight how many", x.all(0, 1, 31, 2), 1);
        due("19 of a part", x.all(0, 0, 7, 0), 2);
        due("19 of none", x.all(0, 0, 0, 0), 0);
        due("19 what 3", x.all(0, 0, 0, 3), BAD);
        due("19 what -1", x.all(0, 0, 0, -1), BAD);
        due("19 side", x.all(2, 0, 0, 0), BAD);
        // points that weigh nothing still come: it is one that can't grow
        FittingRings y = plain(4);
        for (int p = 0; p < 4; p++) {
            y.set(p, 0);
        }
        y.mesh(12, 1);
        due("17 nothing weighs", y.greatest(0, 1, 15), 1);
        due("17 it can't grow", y.greatest(0, 1, 12), 12);
        due("19 nothing weighs", y.all(0, 1, 15, 2), 3);
        for (int rule = 0; rule < 5; rule++) {
            due("15 nothing weighs " + rule, y.bound(rule, 0, 1, 15), 0);
        }
        due("14 nothing weighs", y.left(0, 1, 15), 0);
        due("20 nothing weighs", y.turning(0, 1, 15, 1), NONE);
    }

    private static void manyGrown() {
        FittingRings x = plain(40);
        for (int i = 0; i < 12; i += 3) {
            x.mesh(7L << i, 1);
        }
        x.mesh(15L << 12, 1);
        due("18 as many as can be", x.grown(1, 65535, -1), 324);
        due("18 first of many", x.grown(1, 65535, 0), 1 | 8 | 64 | 512 | 4096);
        due("18 last of many", x.grown(1, 65535, 323), 4 | 32 | 256 | 2048 | 32768);
        due("18 behind the last", x.grown(1, 65535, 324), PLACE);
        due("19 all of them", x.all(1, 0, 65535, 2), 324);
        due("17 seventeen", x.greatest(0, 0, 131071), MUCH);
        due("18 seventeen", x.grown(0, 131071, 999), MUCH);
        due("19 seventeen", x.all(0, 0, 131071, 0), MUCH);
        due("20 seventeen", x.turning(0, 0, 131071, 0), MUCH);
        due("17 seventeen, bad", x.greatest(0, 2, 131071), BAD);
        due("19 seventeen, bad", x.all(0, 0, 131071, 3), BAD);
        due("20 sixteen", x.turning(1, 0, 65535, 0), NONE);
        due("20 sixteen, more", x.turning(1, 0, 65535, 1), 1);
        due("17 sixteen of the last", x.greatest(1, 0, 65535L << 24), 65535L << 24);
        due("21 eleven", x.fewest(0, 2047), MUCH);
        due("21 eleven, bad", x.fewest(2, 2047), BAD);
        due("21 ten of the last", x.fewest(1, 1023L << 30), 10);
    }

    // promise 20
    private static void turnings() {
        FittingRings x = round();
        due("20 more: a three", x.turning(0, 0, 31, 1), 2);
        due("20 less: there are others", x.turning(0, 0, 31, 0), NONE);
        due("20 less by weight: its own join", x.turning(0, 1, 31, 0), 40 * 3 + 4);
        due("20 nothing is turned", x.count(1), 5);
        due("20 of none", x.turning(0, 0, 0, 1), NONE);
        due("20 of one", x.turning(0, 0, 4, 1), NONE);
        due("20 two", x.turning(0, 0, 5, 1), 2);
        due("20 two, less", x.turning(0, 0, 3, 0), 1);
        due("20 more 2", x.turning(0, 0, 3, 2), BAD);
        due("20 more -1", x.turning(0, 0, 3, -1), BAD);
        due("20 side", x.turning(2, 0, 3, 0), BAD);
        due("20 measure", x.turning(0, 2, 3, 0), BAD);
        due("20 no such set", x.turning(0, 0, 32, 0), BAD);
        // a turn changes weights too: two lone ones, joined, are together less than one was
        FittingRings y = new FittingRings();
        y.point(5, 9);
        y.point(5, 9);
        due("20 lone ones, less", y.turning(0, 1, 3, 0), 1);
        due("20 lone ones, more", y.turning(0, 1, 3, 1), NONE);
        due("20 they weigh as before", y.told(0, 2), 9);
    }

    // promises 21, 22
    private static void fewestAndBetter() {
        FittingRings x = round();
        due("21 a round of five", x.fewest(0, 31), 3);
        due("21 by side 1", x.fewest(1, 31), 3);
        due("21 a path of it", x.fewest(0, 15), 2);
        due("21 of none", x.fewest(0, 0), 0);
        due("21 no such set", x.fewest(0, 32), BAD);
        FittingRings crown = plain(10);
        for (int a = 0; a < 10; a += 2) {
            for (int b = 1; b < 10; b += 2) {
                crown.join(a, b, b == a + 1 ? 0 : 1);
            }
        }
        due("21 two, though the first that will do makes five", crown.fewest(0, 1023), 2);
        crown.mesh(1023, 1);
        due("21 all fit", crown.fewest(0, 1023), 10);
        due("21 none fit", crown.fewest(1, 1023), 1);

        FittingRings y = plain(6);
        y.join(1, 2, 1);
        due("22 two for one", y.better(0, 1, 7), 6);
        due("22 one more, the least", y.better(1, 0, 63), 63 & ~4);
        due("22 nothing to do", y.better(0, 6, 63), 6);
        due("22 not of W", y.better(0, 8, 7), STATE);
        due("22 no ring", y.better(0, 3, 7), STATE);
        due("22 beyond the points", y.better(0, 64, 63), STATE);
        due("22 W bad, and no ring", y.better(0, 3, 64), BAD);
        due("22 side", y.better(2, 0, 0), BAD);
        FittingRings z = plain(6);
        z.join(0, 1, 1);
        z.mesh(1 | 4 | 8, 1);
        z.mesh(2 | 16 | 32, 1);
        due("22 first by the one that leaves", z.better(0, 3, 63), 2 | 16 | 32);
        FittingRings t = plain(5);
        t.mesh(6, 1);
        t.join(1, 4, 1);
        t.mesh(24, 1);
        due("22 then by a, then by b", t.better(0, 1, 31), 2 | 4);
    }

    // promises 23, 24
    private static void proofs() {
        FittingRings x = kite();
        due("24 no proof yet", x.proof(0), PLACE);
        due("23 by count", x.prove(0, 0, 0, 3, 15), 5);
        int[] nodes = {2, 1, -1, -1, -1};
        for (int i = 0; i < 5; i++) {
            due("24 node " + i, x.proof(i), nodes[i]);
        }
        due("24 place 5", x.proof(5), PLACE);
        due("24 place -1", x.proof(-1), PLACE);
        due("23 there is a three", x.prove(0, 0, 0, 2, 15), NONE);
        due("23 it leaves the one before", x.count(3), 5);
        due("23 k -1", x.prove(0, 0, 0, -1, 15), BAD);
        due("23 rule 5", x.prove(5, 0, 0, 3, 15), BAD);
        due("23 side 2", x.prove(0, 2, 0, 3, 15), BAD);
        due("23 measure 2", x.prove(0, 0, 2, 3, 15), BAD);
        due("23 no such set", x.prove(0, 0, 0, 3, 16), BAD);
        due("24 that too leaves it", x.proof(0), 2);
        due("23 k as great as can be", x.prove(0, 0, 1, Integer.MAX_VALUE, 15), 1);
        due("24 a leaf", x.proof(0), -1);
        due("23 by colours", x.prove(1, 0, 0, 3, 15), 1);
        due("23 none of none", x.prove(4, 1, 1, 0, 0), 1);
        x.turns(2, 1);
        x.set(2, 20);
        due("23 by weight", x.prove(0, 0, 1, 42, 15), 5);
        due("23 by weight, too little", x.prove(0, 0, 1, 41, 15), NONE);
    }

    private static void proofLimits() {
        long twenty = (1L << 20) - 1;
        int[][] cases = {
            {8, 5, 6, 199}, {41, 6, 6, 199}, {37, 6, 6, MUCH}, {73, 7, 7, MUCH}, {412, 8, 8, NONE},
            {1045, 8, 8, NONE}, {1436, 7, 7, MUCH}, {1524, 7, 8, MUCH}};
        for (int[] c : cases) {
            FittingRings x = new FittingRings();
            x.deal(c[0], 20, c[1]);
            due("23 near the 200th, seed " + c[0], x.prove(0, 0, 0, c[2], twenty), c[3]);
        }
        FittingRings x = new FittingRings();
        x.deal(8, 20, 5);
        x.prove(0, 0, 0, 6, twenty);
        due("24 last of 199", x.proof(198), -1);
        due("26 more than 60", x.writes(0), FULL);
        due("26 nothing came of that", x.read(0, 0), NOTHING);
        FittingRings pairs = plain(40);
        pairs.mesh(FORTY, 1);
        for (int i = 0; i < 20; i++) {
            pairs.join(i, i + 20, 0);
        }
        due("23 too much", pairs.prove(0, 0, 0, 20, FORTY), MUCH);
        due("23 not by colours", pairs.prove(1, 0, 0, 20, FORTY), 1);
        FittingRings none = plain(40);
        due("23 a long one", none.prove(0, 0, 0, 1, FORTY), 79);
    }

    // promise 25
    private static void checks() {
        FittingRings x = kite();
        due("25 missing", x.check(0, 0, 0, 0, 3, 15), NOTHING);
        due("25 missing, and k bad", x.check(0, 0, 0, 0, -1, 15), BAD);
        due("25 no such sheet", x.check(4, 0, 0, 0, 3, 15), BAD);
        due("25 sheet -1", x.check(-1, 0, 0, 0, 3, 15), BAD);
        row(x, 0, 1, 2, 1, -1, -1, -1);
        due("25 a proof", x.check(0, 0, 0, 0, 3, 15), NONE);
        due("25 rule", x.check(0, 5, 0, 0, 3, 15), BAD);
        due("25 side", x.check(0, 0, 2, 0, 3, 15), BAD);
        due("25 measure", x.check(0, 0, 0, 2, 3, 15), BAD);
        due("25 no such set", x.check(0, 0, 0, 0, 3, 16), BAD);
        due("25 no leaf may be", x.check(0, 0, 0, 0, 2, 15), 2);
        row(x, 0, 2, 2, 1, -1, -1);
        due("25 one lacks", x.check(0, 0, 0, 0, 3, 15), 4);
        row(x, 0, 2, 2, 1, -1, -1, -1, -1);
        due("25 one too many", x.check(0, 0, 0, 0, 3, 15), 5);
        row(x, 0, 0, 2, 2, -1, -1, -1);
        due("25 no point of S", x.check(0, 0, 0, 0, 3, 15), 1);
        row(x, 0, 0, 2, -2, -1, -1, -1);
        due("25 -2", x.check(0, 0, 0, 0, 3, 15), 1);
        row(x, 0, 2, 66, -1, -1);
        due("25 66 is not 2", x.check(0, 0, 0, 0, 4, 15), 0);
        row(x, 0, 2, 3, -1, -1);
        due("25 at any point", x.check(0, 0, 0, 0, 3, 15), NONE);
        row(x, 0, 2, 0, 1, -1, -1, -1);
        due("25 a branch where a leaf may be", x.check(0, 0, 0, 0, 4, 15), NONE);
        row(x, 0, 2);
        due("25 an empty sheet", x.check(0, 0, 0, 0, 9, 15), 0);
        row(x, 0, 2, -1, 0);
        due("25 a number behind the leaf", x.check(0, 0, 0, 0, 9, 15), 1);
        due("25 count(3) is not touched", x.count(3), 0);
    }

    // promise 26
    private static void writing() {
        FittingRings x = kite();
        due("26 there is none", x.writes(0), STATE);
        due("26 there is none, no such sheet", x.writes(4), BAD);
        x.prove(0, 0, 0, 3, 15);
        due("26 nodes", x.writes(3), 5);
        due("26 first", x.read(3, 0), 2);
        due("26 last", x.read(3, 4), -1);
        due("26 no more", x.read(3, 5), PLACE);
        due("26 of shorts", x.cell(3, 0, 70000), 4464);
        due("26 sheet -1", x.writes(-1), BAD);
        due("26 it still is", x.proof(0), 2);
    }

    // promise 27
    private static void covers() {
        FittingRings x = kite();
        x.set(1, 30);
        x.set(3, 20);
        due("27 missing", x.cover(0, 0, 0, 15), NOTHING);
        due("27 missing, and bad", x.cover(0, 0, 2, 15), BAD);
        due("27 no such sheet", x.cover(4, 0, 0, 15), BAD);
        row(x, 0, 2, 0, 1000000, 7, 1000000);
        due("27 numbers", x.cover(0, 0, 0, 15), 3);
        due("27 weights", x.cover(0, 0, 1, 15), 1 + 30 + 1);
        due("27 of W alone", x.cover(0, 0, 1, 13), 1 + 1 + 20);
        due("27 of none", x.cover(0, 0, 1, 0), 0);
        due("27 by side 1 1 and 3 fit", x.cover(0, 1, 0, 15), -103);
        row(x, 0, 2, 0, 0, -1, 0);
        due("27 the least such", x.cover(0, 0, 0, 15), -101);
        due("27 below 0", x.cover(0, 0, 0, 13), -102);
        due("27 below 0 where it is not asked", x.cover(0, 0, 0, 9), 1);
        row(x, 0, 2, 0, 1);
        due("27 a place lacks", x.cover(0, 0, 0, 7), -102);
        due("27 it is not asked", x.cover(0, 0, 0, 3), 2);
        row(x, 0, 2);
        due("27 all lack", x.cover(0, 0, 0, 8), -103);
        due("27 side", x.cover(0, 2, 0, 0), BAD);
        due("27 no such set", x.cover(0, 0, 0, 16), BAD);
    }

    // promise 28
    private static void films() {
        FittingRings x = kite();
        due("28 classes", x.film(1, 0, 14), 2);
        int[] at = {-1, 0, 1, 0};
        for (int p = 0; p < 4; p++) {
            due("28 class of " + p, x.read(1, p), at[p]);
        }
        due("28 a place each", x.read(1, 4), PLACE);
        due("28 of bytes", x.cell(1, 0, 200), -56);
        due("28 of none", x.film(1, 0, 0), 0);
        due("28 none is of it", x.read(1, 0), -1);
        due("28 sheet", x.film(4, 0, 0), BAD);
        due("28 side", x.film(1, 2, 0), BAD);
        due("28 no such set", x.film(1, 0, 16), BAD);
        FittingRings y = new FittingRings();
        due("28 no points", y.film(0, 0, 0), 0);
        due("28 an empty row", y.read(0, 0), PLACE);
    }

    // promise 29
    private static void slips() {
        FittingRings x = kite();
        due("29 missing", x.slip(0, 0), NOTHING);
        due("29 missing, side bad", x.slip(0, 2), BAD);
        due("29 no such sheet", x.slip(4, 0), BAD);
        row(x, 0, 0, 2, 2, 3);
        due("29 too few places", x.slip(0, 0), PLACE);
        row(x, 0, 0, 2, 2, 3, 1, 77);
        due("29 right", x.slip(0, 0), NONE);
        row(x, 0, 0, 1, 1, 0, 2);
        due("29 right by side 1", x.slip(0, 1), NONE);
        row(x, 0, 0, 2, 3, 3, 2);
        due("29 a join lacks", x.slip(0, 0), 40 + 3);
        row(x, 0, 0, 1, 1, 3, 1);
        due("29 a join too many", x.slip(0, 0), 1);
        row(x, 0, 0, 3, 3, 3, 1);
        due("29 they are joined already", x.slip(0, 0), STATE);
        row(x, 0, 0, 3, 1, 3, 1);
        due("29 one more, one less", x.slip(0, 0), STATE);
        row(x, 0, 0, 3, 2, 3, 1);
        due("29 one alone", x.slip(0, 0), STATE);
        row(x, 0, 0, 1, 1, 2, 1);
        due("29 three", x.slip(0, 0), STATE);
        row(x, 0, 0, 2, 4, 3, 3);
        due("29 by two", x.slip(0, 0), STATE);
        due("29 nothing is turned", x.count(1), 4);
    }

    // promise 30
    private static void feeds() {
        FittingRings x = new FittingRings();
        due("30 n 0", x.feed(0, 0), BAD);
        due("30 n 9", x.feed(9, 0), BAD);
        for (int i = 1; i < 20; i++) {
            due("30 eight more", x.feed(8, 0x2020202020202020L), 8 * i);
        }
        due("30 four more", x.feed(4, 0x20202020FFFFFFFFL), 156);
        due("30 five have no room", x.feed(5, 0), FULL);
        due("30 nine are bad, whether or not", x.feed(9, 0), BAD);
        due("30 nothing came of that", x.count(2), 156);
        due("30 four have", x.feed(4, 0x2020202000000000L), 160);
        due("30 one has not", x.feed(1, 0), FULL);
        due("31 160 blanks", x.text(), -260);
        due("30 it is empty then", x.count(2), 0);
        FittingRings y = plain(2);
        y.feed(3, ('j' << 16 | 'o' << 8 | 'i') * (1L << 40) | 0x7878787878L);
        y.feed(5, ((long) 'n' << 56) | ((long) ' ' << 48) | ((long) '1' << 40) | ((long) ' ' << 32) | ((long) '0' << 24));
        due("30 the highest first", y.text(), 1);
        due("30 it came", y.told(0, 3), 1);
    }

    // promise 31
    private static void texts() {
        FittingRings x = new FittingRings();
        due("31 six kinds", say(x, "point point 1;point loud 2;point shy 3;point proud4 ; point meek 05;  point lone 99  "), 6);
        for (int p = 0; p < 6; p++) {
            due("31 kind", x.told(p, 0), p);
            due("31 figure", x.told(p, 1), p == 5 ? 99 : p + 1);
        }
        due("31 ring", say(x, "ring 1 4"), 1);
        due("31 the round is closed", x.near(0, 1, 63), 4 | 16);
        due("31 four joins", x.count(1), 4);
        due("31 ring of two", say(x, "ring 4 5"), 1);
        due("31 five joins", x.count(1), 5);
        due("31 all", say(x, "all 0 3"), 1);
        due("31 some were there", x.count(1), 9);
        due("31 all and cut", say(x, "all 0 5;cut 5 0;cut 5 0"), 3);
        due("31 cut", x.count(1), 14);
        due("31 flip", say(x, "flip 0 5"), 1);
        due("31 but that one", x.count(1), 1);
        due("31 which", x.near(0, 0, 63), 32);
        due("31 flip of some", say(x, "flip 2 4"), 1);
        due("31 three more", x.count(1), 4);
        due("31 a point of the same text", say(x, "point shy 7;join 6 0;join 0 6"), 3);
        due("31 joined", x.near(0, 6, 127), 1);
    }

    private static void textFaults() {
        String[] texts = {"", "   ", ";", "point", "point ", "point loud", "point loud 7;", "point loud 100", "point loud 007",
            "pointloud 7", "point louder 7", "point 7", "point loud shy", "point loud 7 8", "join 0", "join 0 0", "join 0 2", "join 2 0",
            "join 0 1 1", "cut 1 1", "all 1 0", "all 1 1", "all 0 2", "ring 0 0", "ring 1 0", "flip 1 1", "flip 0 1 ;; ",
            "join 0,1", "Join 0 1", "join 0 1;jo in 0 1", "7", "join join", "point loud 7;join 0 3", "join 0 001",
            "joinz 0 1", "ajoin 0 1", "point zloud 1", "join 0 1`", "join 0 1{", "join 0 1/", "join 0 1:"};
        int[] faults = {0, 3, 0, 5, 6, 10, 13, 11, 11,
            0, 6, 6, 11, 13, 6, 7, 7, 5,
            9, 6, 6, 6, 6, 7, 7, 7, 10,
            6, 0, 9, 0, 5, 20, 7,
            0, 0, 6, 8, 8, 8, 8};
        for (int i = 0; i < texts.length; i++) {
            FittingRings x = plain(2);
            due("31 '" + texts[i] + "'", say(x, texts[i]), -100 - faults[i]);
            due("31 nothing of it: points", x.count(0), 2);
            due("31 nothing of it: joins", x.count(1), 0);
            due("31 nothing of it: tape", x.count(2), 0);
        }
        FittingRings x = plain(39);
        due("31 a 40th and a 41st", say(x, "point loud 1;point loud 2"), -113);
        due("31 neither came", x.count(0), 39);
        due("31 a 40th", say(x, "point loud 1;all 38 39"), 2);
        due("31 a 41st", say(x, " point"), -101);
        due("31 that is not the first", say(x, "join 0 1;point loud 5"), -109);
        due("31 nothing is joined", x.told(0, 3), 0);
        due("31 point 40", say(x, "join 39 40"), -108);
    }

    // promises 32, 33
    private static void lots() {
        FittingRings x = new FittingRings();
        due("32 n 0", x.deal(0, 0, 5), BAD);
        due("32 n 41", x.deal(0, 41, 5), BAD);
        due("32 odds 11", x.deal(0, 1, 11), BAD);
        due("32 odds -1", x.deal(0, 1, -1), BAD);
        int[] draws = new int[40];
        long z = 0;
        for (int i = 0; i < draws.length; i++) {
            z = (z * 1103515245L + 12345L) % (1L << 32);
            draws[i] = (int) (z / 256);
        }
        x.point(0, 0);
        due("32 three more", x.deal(0, 3, 4), 4);
        int at = 0;
        for (int p = 1; p < 4; p++) {
            due("32 kind", x.told(p, 0), draws[at++] % 6);
            due("32 figure", x.told(p, 1), draws[at++] % 100);
            for (int q = 0; q < p; q++) {
                due("32 joined", x.near(0, p, 1L << q) != 0 ? 1 : 0, draws[at++] % 10 < 4 ? 1 : 0);
            }
        }
        due("32 37 have no room", x.deal(0, 37, 4), FULL);
        due("32 37, and bad", x.deal(0, 37, 11), BAD);
        due("32 36 have", x.deal(0, 36, 10), 40);
        due("32 odds 10", x.told(39, 3), 39);
        FittingRings y = new FittingRings();
        due("32 odds 0", y.deal(-7, 40, 0), 40);
        due("32 none", y.count(1), 0);
        due("33 all joined, above", y.mean(3, 12, 10, 10, 0), 10);
        due("33 all joined, below", y.mean(3, 12, 10, 10, 1), 1);
        due("33 none joined", y.mean(3, 7, 10, 0, 0), 1);
        due("33 no points, above", y.mean(3, 7, 0, 5, 0), 0);
        due("33 no points, below", y.mean(3, 7, 0, 5, 1), 1);
        // two points: 1, and 1 for each draw that joins them
        int joined = 0;
        for (int i = 0; i < 8; i++) {
            joined += draws[i] % 10 < 6 ? 1 : 0;
        }
        int above = 8 + joined;
        int below = 8;
        while (above % 2 == 0 && below % 2 == 0) {
            above /= 2;
            below /= 2;
        }
        due("33 by draws, above", y.mean(0, 8, 2, 6, 0), above);
        due("33 by draws, below", y.mean(0, 8, 2, 6, 1), below);
        due("33 m 0", y.mean(0, 0, 2, 6, 0), BAD);
        due("33 m 13", y.mean(0, 13, 2, 6, 0), BAD);
        due("33 n -1", y.mean(0, 1, -1, 6, 0), BAD);
        due("33 n 11", y.mean(0, 1, 11, 6, 0), BAD);
        due("33 odds 11", y.mean(0, 1, 2, 11, 0), BAD);
        due("33 part 2", y.mean(0, 1, 2, 6, 2), BAD);
        due("33 in thought", y.count(1), 0);
    }

    // promises 34 to 37
    private static void hands() {
        FittingRings x = kite();
        x.turns(1, 3);
        x.set(1, 40);
        due("34 hand 4", x.hold(4, 0, 0), BAD);
        due("34 hand -1", x.hold(-1, 0, 0), BAD);
        due("34 sort 4", x.hold(0, 4, 0), BAD);
        due("34 sort -1", x.hold(0, -1, 0), BAD);
        due("34 no such point", x.hold(0, 1, 4), BAD);
        due("34 no such point, long", x.hold(0, 1, 1L << 32), BAD);
        due("34 no such rule", x.hold(0, 2, 5), BAD);
        due("34 no such rule, long", x.hold(0, 2, (1L << 32) + 1), BAD);
        due("34 rule -1", x.hold(0, 2, -1), BAD);
        due("35 it holds nothing", x.handAs(0, 0), NOTHING);
        due("34 a point", x.hold(0, 1, 1), 0);
        int[] as = {40, 40, KIND, 40, KIND, KIND};
        for (int kind = 0; kind < 6; kind++) {
            due("35 a proud one as " + kind, x.handAs(0, kind), as[kind]);
        }
        x.set(1, 41);
        x.turns(1, 0);
        due("35 as it was", x.handAs(0, 3), 40);
        due("35 kind 6", x.handAs(0, 6), BAD);
        due("35 kind -1", x.handAs(0, -1), BAD);
        due("35 hand 4", x.handAs(4, 0), BAD);
        due("36 it holds a point", x.handBound(0, 0, 0, 15), KIND);
        due("37 it holds a point", x.handLess(0, 0), KIND);
        due("34 a rule", x.hold(0, 2, 4), 1);
        due("36 bound", x.handBound(0, 0, 0, 15), 3);
        due("36 side", x.handBound(0, 2, 0, 15), BAD);
        due("36 measure", x.handBound(0, 0, 2, 15), BAD);
        due("36 no such set", x.handBound(0, 0, 0, 16), BAD);
        due("36 hand", x.handBound(4, 0, 0, 15), BAD);
        due("36 nothing, and bad", x.handBound(1, 0, 0, 16), BAD);
        due("36 nothing", x.handBound(1, 0, 0, 15), NOTHING);
        due("35 it holds a rule", x.handAs(0, 0), KIND);
        due("34 a set", x.hold(0, 3, Long.MIN_VALUE | 6), 2);
        due("37 less", x.handLess(0, 2), Long.MIN_VALUE | 4);
        due("37 less all", x.handLess(0, -1), 0);
        due("37 it still holds all", x.handLess(0, 0), Long.MIN_VALUE | 6);
        due("37 hand", x.handLess(-1, 0), BAD);
        due("35 it holds a set", x.handAs(0, 0), KIND);
        due("36 it holds a set", x.handBound(0, 0, 0, 15), KIND);
        due("34 a bad one leaves it", x.hold(0, 1, 9), BAD);
        due("34 nothing", x.hold(0, 0, 99), 3);
        due("37 nothing", x.handLess(0, 0), NOTHING);
        due("34 it held nothing", x.hold(0, 0, -99), 0);
        FittingRings y = new FittingRings();
        int[][] under = {{0}, {0, 1}, {0, 2}, {0, 1, 3}, {0, 2, 4}, {0, 5}};
        for (int kind = 0; kind < 6; kind++) {
            y.point(kind, 10 + kind);
            y.hold(3, 1, kind);
            for (int wanted = 0; wanted < 6; wanted++) {
                boolean is = false;
                for (int u : under[kind]) {
                    is |= u == wanted;
                }
                due("35 " + kind + " as " + wanted, y.handAs(3, wanted), is ? 10 + kind : KIND);
            }
        }
    }

    // promises 38 to 40
    private static void sheets() {
        FittingRings x = new FittingRings();
        due("38 sixty", x.sheet(0, 2, 60), 1);
        due("38 61", x.sheet(0, 2, 61), BAD);
        due("38 -1", x.sheet(0, 2, -1), SIZE);
        due("38 -1 of no sort", x.sheet(0, 3, -1), BAD);
        due("38 sort -2", x.sheet(0, -2, 1), BAD);
        due("38 sheet 4", x.sheet(4, 0, 1), BAD);
        due("38 sheet -1", x.sheet(-1, 0, -1), BAD);
        due("38 it is as it was", x.read(0, 59), 0);
        due("39 an int", x.cell(0, 59, Integer.MIN_VALUE), Integer.MIN_VALUE);
        due("40 an int", x.read(0, 59), Integer.MIN_VALUE);
        due("38 none", x.sheet(0, 0, 0), 1);
        due("40 none", x.read(0, 0), PLACE);
        due("38 anew", x.sheet(0, 2, 60), 1);
        due("38 all 0", x.read(0, 59), 0);
        due("39 place 60", x.cell(0, 60, 1), PLACE);
        due("39 place -1", x.cell(0, -1, 1), PLACE);
        due("39 sheet", x.cell(4, 0, 1), BAD);
        due("39 missing", x.cell(1, 99, 1), NOTHING);
        due("40 place 60", x.read(0, 60), PLACE);
        due("40 place -1", x.read(0, -1), PLACE);
        due("40 sheet", x.read(-1, 0), BAD);
        due("40 missing", x.read(1, 99), NOTHING);
        x.sheet(1, 0, 1);
        due("39 a byte", x.cell(1, 0, 0x180), -128);
        due("40 a byte", x.read(1, 0), -128);
        x.sheet(1, 1, 1);
        due("39 a short", x.cell(1, 0, 0x18000), -32768);
        due("40 a short", x.read(1, 0), -32768);
        due("38 missing, n 61", x.sheet(1, -1, 61), 1);
        due("38 missing, n -5", x.sheet(0, -1, -5), 1);
        due("40 missing then", x.read(1, 0), NOTHING);
    }

    // promise 41
    private static void copies() {
        FittingRings x = new FittingRings();
        row(x, 0, 1, 1, 2, 3, 4, 5);
        row(x, 1, 1, 0, 0, 0);
        row(x, 2, 2, 0, 0, 0);
        due("41 to another", x.copy(0, 2, 1, 0, 3), 3);
        due("41 came", x.read(1, 2), 5);
        due("41 forward in itself", x.copy(0, 0, 0, 1, 4), 4);
        int[] forward = {1, 1, 2, 3, 4};
        for (int i = 0; i < 5; i++) {
            due("41 as they were", x.read(0, i), forward[i]);
        }
        due("41 backward in itself", x.copy(0, 1, 0, 0, 4), 4);
        int[] backward = {1, 2, 3, 4, 4};
        for (int i = 0; i < 5; i++) {
            due("41 as they were", x.read(0, i), backward[i]);
        }
        due("41 from 4", x.copy(4, 0, 0, 0, 0), BAD);
        due("41 to -1", x.copy(0, 0, -1, 0, 0), BAD);
        due("41 missing", x.copy(0, 0, 3, 0, 9), NOTHING);
        due("41 missing ahead", x.copy(3, 0, 0, 0, 9), NOTHING);
        due("41 unlike", x.copy(0, 0, 2, 0, 9), KIND);
        due("41 beyond", x.copy(0, 3, 1, 0, 3), PLACE);
        due("41 beyond there", x.copy(0, 0, 1, 1, 3), PLACE);
        due("41 from -1", x.copy(0, -1, 1, 0, 1), PLACE);
        due("41 to -1", x.copy(0, 0, 1, -1, 1), PLACE);
        due("41 n -1", x.copy(0, 1, 1, 1, -1), PLACE);
        due("41 n as great as can be", x.copy(0, 1, 1, 1, Integer.MAX_VALUE), PLACE);
        due("41 i as great as can be", x.copy(0, Integer.MAX_VALUE, 1, 0, 1), PLACE);
        due("41 none from the end", x.copy(0, 5, 1, 3, 0), 0);
        due("41 none from beyond", x.copy(0, 6, 1, 3, 0), PLACE);
    }

    // promises 42, 43
    private static void images() {
        FittingRings x = kite();
        due("43 there is none", x.back(), STATE);
        due("42 kept", x.image(), 4);
        x.point(0, 5);
        x.set(0, 77);
        x.turns(1, 3);
        x.mesh(31, 1);
        x.sheet(0, 2, 3);
        x.hold(0, 3, 5);
        x.feed(2, 0);
        x.prove(0, 0, 0, 5, 31);
        due("43 back", x.back(), 4);
        due("43 points", x.count(0), 4);
        due("43 joins", x.count(1), 4);
        due("43 figure", x.told(0, 1), 1);
        due("43 kind", x.told(1, 0), 0);
        due("43 weight", x.told(1, 2), 1);
        due("43 a sheet stays", x.read(0, 2), 0);
        due("43 a hand stays", x.handLess(0, 0), 5);
        due("43 the tape stays", x.count(2), 2);
        due("43 the proof stays", x.count(3), 1);
        x.mesh(15, 0);
        due("43 back once more", x.back(), 4);
        due("43 joins once more", x.count(1), 4);
        due("43 a new one has none of the fifth", x.point(0, 1), 4);
        due("43 joined to none", x.told(4, 3), 0);
        due("42 kept anew", x.image(), 5);
        due("43 back to that", x.back(), 5);
    }

    // promise 44
    private static void counts() {
        FittingRings x = kite();
        x.feed(3, 0);
        x.prove(0, 0, 0, 3, 15);
        int[] counts = {4, 4, 3, 5};
        for (int what = 0; what < 4; what++) {
            due("44 count " + what, x.count(what), counts[what]);
        }
        due("44 what 4", x.count(4), BAD);
        due("44 what -1", x.count(-1), BAD);
    }
}
