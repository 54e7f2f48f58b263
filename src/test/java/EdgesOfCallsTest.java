/** The boundary cases that each promise names: the last value that is taken, the first that is not, on either end. */
public final class EdgesOfCallsTest extends EdgeBench {
    public static void main(String[] args) {
        promise1();
        promise2();
        promise3();
        promises4And5();
        promise6();
        promise7();
        promise8();
        promises9And10();
        promise11();
        promise12();
        promises13And14();
        promise15();
        promise16();
        promise17();
        promise18();
        promise19();
        promise20();
        promise21();
        promise22();
        promise23();
        promise24();
        promise25();
        promise25ByPlaces();
        promise26();
        promise27();
        promise28();
        promise29();
        promise30();
        promise31();
        promise32();
        promise33();
        promise34();
        promise35();
        promises36And37();
        promise38();
        promise39();
        promise40();
        promise41();
        promises42And43();
        promise44();
        end();
    }

    /** "No POINTS." */
    private static void promise1() {
        for (int what = 0; what < 4; what++) {
            int w = what;
            keeps("1 nothing is counted", BARE, 0, x -> x.count(w));
            keeps("1 no point 0", BARE, BAD, x -> x.told(0, w));
        }
        keeps("1 no figure", BARE, BAD, x -> x.set(0, 0));
        keeps("1 no kind", BARE, BAD, x -> x.turns(0, 0));
        keeps("1 no two", BARE, BAD, x -> x.join(0, 1, 1));
        keeps("1 none near", BARE, BAD, x -> x.near(0, 0, 0));
        keeps("1 none to hold", BARE, BAD, x -> x.hold(0, 1, 0));
        keeps("1 no image", BARE, STATE, x -> x.back());
        keeps("1 no proof", BARE, PLACE, x -> x.proof(0));
        keeps("1 no proof to write", BARE, STATE, x -> x.writes(0));
        keeps("1 no text", BARE, -100, x -> x.text());
        keeps("1 the set of none: mesh", BARE, 0, x -> x.mesh(0, 1));
        keeps("1 the set of none: a ring", BARE, 1, x -> x.isRing(1, 0));
        keeps("1 the set of none: no place", BARE, PLACE, x -> x.order(0, 0, 0));
        keeps("1 the set of none: no two", BARE, NONE, x -> x.turning(1, 1, 0, 1));
        keeps("1 the set of none: no parts", BARE, 0, x -> x.fewest(0, 0));
        keeps("1 the set of none: better", BARE, 0, x -> x.better(0, 0, 0));
        keeps("1 the set of none: core", BARE, 0, x -> x.core(0, 39, 0));
        FittingRings x = new FittingRings();
        due("1 a film of none", x.film(0, 0, 0), 0);
        due("1 its row is of none", x.read(0, 0), PLACE);
        due("1 all of none are right", x.slip(0, 0), NONE);
        due("1 a cover of none", x.cover(0, 0, 1, 0), 0);
        due("1 the first point is 0", x.point(0, 0), 0);
    }

    /** "One more POINT: its number. BAD; FULL." */
    private static void promise2() {
        for (int kind = 0; kind < 6; kind++) {
            int k = kind;
            changes("2 kind " + k, BUSY, 6, x -> x.point(k, 0), "net");
        }
        changes("2 figure 99", BUSY, 6, x -> x.point(0, 99), "net");
        refuses("2 BAD: kind", BUSY, BAD, (x, v) -> x.point(v, 0), beyond(0, 5));
        refuses("2 BAD: figure", BUSY, BAD, (x, v) -> x.point(0, v), beyond(0, 99));
        due("2 the 40th", plain(39).point(5, 99), 39);
        keeps("2 FULL", FILLED, FULL, x -> x.point(5, 99));
    }

    private static void promise3() {
        int[] ofFirst = {0, 9, 9, 2};
        int[] ofLast = {5, 3, 3, 0};
        for (int what = 0; what < 4; what++) {
            int w = what;
            keeps("3 of the first", BUSY, ofFirst[w], x -> x.told(0, w));
            keeps("3 of the last", BUSY, ofLast[w], x -> x.told(5, w));
            refuses("3 BAD: point", BUSY, BAD, (x, v) -> x.told(v, w), beyond(0, 5));
            refuses("3 BAD: point of forty", FILLED, BAD, (x, v) -> x.told(v, w), beyond(0, 39));
        }
        refuses("3 BAD: what", BUSY, BAD, (x, v) -> x.told(0, v), beyond(0, 3));
    }

    private static void promises4And5() {
        changes("4 the first, figure 0", BUSY, 9, x -> x.set(0, 0), "net");
        changes("4 the last, figure 99", BUSY, 3, x -> x.set(5, 99), "net");
        refuses("4 BAD: point", BUSY, BAD, (x, v) -> x.set(v, 0), beyond(0, 5));
        refuses("4 BAD: figure", BUSY, BAD, (x, v) -> x.set(0, v), beyond(0, 99));
        changes("5 the first, the last kind", BUSY, 0, x -> x.turns(0, 5), "net");
        changes("5 the last, the first kind", BUSY, 5, x -> x.turns(5, 0), "net");
        refuses("5 BAD: point", BUSY, BAD, (x, v) -> x.turns(v, 0), beyond(0, 5));
        refuses("5 BAD: kind", BUSY, BAD, (x, v) -> x.turns(0, v), beyond(0, 5));
    }

    /** "Two POINTS are JOINED (on 1), or not (0): as it was. BAD: no such, one and the same, on." */
    private static void promise6() {
        changes("6 the first and the last", BUSY, 0, x -> x.join(0, 5, 1), "net");
        changes("6 the last and the first", BUSY, 0, x -> x.join(5, 0, 1), "net");
        changes("6 the last two, not", BUSY, 1, x -> x.join(4, 3, 0), "net");
        due("6 the last two of forty", plain(40).join(39, 38, 1), 0);
        for (int on = 0; on < 2; on++) {
            int o = on;
            refuses("6 BAD: no such a", BUSY, BAD, (x, v) -> x.join(v, 0, o), beyond(0, 5));
            refuses("6 BAD: no such b", BUSY, BAD, (x, v) -> x.join(0, v, o), beyond(0, 5));
            refuses("6 BAD: one and the same", BUSY, BAD, (x, v) -> x.join(v, v, o), 0, 3, 5);
        }
        refuses("6 BAD: on, of two that are not joined", BUSY, BAD, (x, v) -> x.join(0, 5, v), beyond(0, 1));
        refuses("6 BAD: on, of two that are", BUSY, BAD, (x, v) -> x.join(0, 1, v), beyond(0, 1));
    }

    private static void promise7() {
        changes("7 all six", BUSY, 10, x -> x.mesh(SIX, 1), "net");
        changes("7 none of the six", BUSY, 5, x -> x.mesh(SIX, 0), "net");
        keeps("7 of none", BUSY, 0, x -> x.mesh(0, 1));
        keeps("7 of one", BUSY, 0, x -> x.mesh(32, 1));
        changes("7 of two", BUSY, 1, x -> x.mesh(33, 1), "net");
        FittingRings y = plain(40);
        due("7 of forty", y.mesh(FORTY, 1), 780);
        due("7 of forty, not", y.mesh(FORTY, 0), 780);
        due("7 of the last two", y.mesh(3L << 38, 1), 1);
        refuses("7 BAD: on", BUSY, BAD, (x, v) -> x.mesh(SIX, v), beyond(0, 1));
        refusesLong("7 BAD: set", BUSY, BAD, (x, w) -> x.mesh(w, 1), noSets(6));
    }

    private static void promise8() {
        keeps("8 the first", BUSY, 6, x -> x.near(0, 0, SIX));
        keeps("8 the last", BUSY, 31, x -> x.near(1, 5, SIX));
        keeps("8 of none", BUSY, 0, x -> x.near(1, 5, 0));
        refuses("8 BAD: side", BUSY, BAD, (x, v) -> x.near(v, 0, SIX), beyond(0, 1));
        refuses("8 BAD: point", BUSY, BAD, (x, v) -> x.near(0, v, SIX), beyond(0, 5));
        refuses("8 BAD: point, by side 1", BUSY, BAD, (x, v) -> x.near(1, v, SIX), beyond(0, 5));
        refuses("8 BAD: a point of forty", FILLED, BAD, (x, v) -> x.near(1, v, FORTY), beyond(0, 39));
        refusesLong("8 BAD: set", BUSY, BAD, (x, w) -> x.near(1, 0, w), noSets(6));
    }

    private static void promises9And10() {
        keeps("9 measure 0", BUSY, 6, x -> x.measure(0, SIX));
        keeps("9 measure 1", BUSY, 3, x -> x.measure(1, 32));
        refuses("9 BAD: measure", BUSY, BAD, (x, v) -> x.measure(v, SIX), beyond(0, 1));
        refusesLong("9 BAD: set", BUSY, BAD, (x, w) -> x.measure(1, w), noSets(6));
        keeps("10 side 0", BUSY, 1, x -> x.isRing(0, 7));
        keeps("10 side 0, one too many", BUSY, 0, x -> x.isRing(0, 15));
        keeps("10 side 1", BUSY, 1, x -> x.isRing(1, 32 | 16 | 4));
        keeps("10 side 1, one too many", BUSY, 0, x -> x.isRing(1, 32 | 16 | 12));
        refuses("10 BAD: side", BUSY, BAD, (x, v) -> x.isRing(v, 0), beyond(0, 1));
        refusesLong("10 BAD: set", BUSY, BAD, (x, w) -> x.isRing(1, w), noSets(6));
    }

    /** "... k -1: DEPTH. BAD: side, SET; PLACE: another k." */
    private static void promise11() {
        keeps("11 k 0", BUSY, 5, x -> x.order(0, SIX, 0));
        keeps("11 the last k", BUSY, 2, x -> x.order(0, SIX, 5));
        keeps("11 k -1", BUSY, 2, x -> x.order(0, SIX, -1));
        refuses("11 PLACE", BUSY, PLACE, (x, v) -> x.order(0, SIX, v), 6, -2, 40, MIN, MAX);
        refuses("11 PLACE of a lesser set", BUSY, PLACE, (x, v) -> x.order(1, 7, v), 3, -2, 5, MIN, MAX);
        refuses("11 PLACE of none", BUSY, PLACE, (x, v) -> x.order(0, 0, v), 0, -2);
        refuses("11 PLACE of forty", FILLED, PLACE, (x, v) -> x.order(0, FORTY, v), 40, -2);
        refuses("11 BAD: side", BUSY, BAD, (x, v) -> x.order(v, SIX, 0), beyond(0, 1));
        refusesLong("11 BAD: set", BUSY, BAD, (x, w) -> x.order(0, w, 0), noSets(6));
    }

    private static void promise12() {
        keeps("12 k 0", BUSY, 52, x -> x.classes(0, SIX, 0));
        keeps("12 the last k", BUSY, 1, x -> x.classes(0, SIX, 2));
        keeps("12 k -1", BUSY, 3, x -> x.classes(0, SIX, -1));
        refuses("12 PLACE", BUSY, PLACE, (x, v) -> x.classes(0, SIX, v), 3, -2, 40, MIN, MAX);
        refuses("12 PLACE of none", BUSY, PLACE, (x, v) -> x.classes(0, 0, v), 0, -2);
        refuses("12 PLACE of forty", FILLED, PLACE, (x, v) -> x.classes(1, FORTY, v), 40, -2);
        refuses("12 BAD: side", BUSY, BAD, (x, v) -> x.classes(v, SIX, 0), beyond(0, 1));
        refusesLong("12 BAD: set", BUSY, BAD, (x, w) -> x.classes(0, w, 0), noSets(6));
    }

    private static void promises13And14() {
        keeps("13 side 0", BUSY, 7, x -> x.taken(0, SIX));
        keeps("13 side 1", BUSY, 1 | 8 | 32, x -> x.taken(1, 1 | 8 | 32));
        refuses("13 BAD: side", BUSY, BAD, (x, v) -> x.taken(v, SIX), beyond(0, 1));
        refusesLong("13 BAD: set", BUSY, BAD, (x, w) -> x.taken(1, w), noSets(6));
        keeps("14 measure 0", BUSY, 0, x -> x.left(0, 0, SIX));
        keeps("14 measure 1", BUSY, 24, x -> x.left(0, 1, SIX));
        refuses("14 BAD: side", BUSY, BAD, (x, v) -> x.left(v, 0, SIX), beyond(0, 1));
        refuses("14 BAD: measure", BUSY, BAD, (x, v) -> x.left(0, v, SIX), beyond(0, 1));
        refusesLong("14 BAD: set", BUSY, BAD, (x, w) -> x.left(1, 1, w), noSets(6));
    }

    private static void promise15() {
        keeps("15 the first rule", BUSY, 6, x -> x.bound(0, 0, 0, SIX));
        keeps("15 the last rule", BUSY, 38, x -> x.bound(4, 0, 1, SIX));
        refuses("15 BAD: rule", BUSY, BAD, (x, v) -> x.bound(v, 0, 0, SIX), beyond(0, 4));
        refuses("15 BAD: rule, of none", BUSY, BAD, (x, v) -> x.bound(v, 0, 0, 0), beyond(0, 4));
        for (int rule = 0; rule < 5; rule++) {
            int r = rule;
            refuses("15 BAD: side", BUSY, BAD, (x, v) -> x.bound(r, v, 0, SIX), beyond(0, 1));
            refuses("15 BAD: measure", BUSY, BAD, (x, v) -> x.bound(r, 0, v, SIX), beyond(0, 1));
            refusesLong("15 BAD: set", BUSY, BAD, (x, w) -> x.bound(r, 1, 1, w), noSets(6));
        }
    }

    /** "... each of which FITS f (0 .. 39) or more of it. BAD." */
    private static void promise16() {
        keeps("16 f 0: all", BUSY, SIX, x -> x.core(0, 0, SIX));
        keeps("16 f 1: those that fit any", BUSY, 31, x -> x.core(0, 1, SIX));
        keeps("16 f 2: just enough", BUSY, 7, x -> x.core(0, 2, SIX));
        keeps("16 f 3: one too few", BUSY, 0, x -> x.core(0, 3, SIX));
        keeps("16 f 39 of six", BUSY, 0, x -> x.core(1, 39, SIX));
        due("16 f 39 of forty", plain(40).core(1, 39, FORTY), FORTY);
        due("16 f 39 of 39", plain(40).core(1, 39, FORTY >> 1), 0);
        due("16 f 38 of 39", plain(40).core(1, 38, FORTY >> 1), FORTY >> 1);
        keeps("16 f 0 of none", BUSY, 0, x -> x.core(0, 0, 0));
        refuses("16 BAD: f", BUSY, BAD, (x, v) -> x.core(0, v, SIX), beyond(0, 39));
        refuses("16 BAD: side", BUSY, BAD, (x, v) -> x.core(v, 0, SIX), beyond(0, 1));
        refusesLong("16 BAD: set", BUSY, BAD, (x, w) -> x.core(0, 0, w), noSets(6));
    }

    private static void promise17() {
        keeps("17 measure 0", BUSY, 7, x -> x.greatest(0, 0, SIX));
        keeps("17 measure 1", BUSY, 24, x -> x.greatest(0, 1, SIX));
        keeps("17 of none", BUSY, 0, x -> x.greatest(0, 1, 0));
        due("17 sixteen", plain(16).greatest(1, 0, 65535), 65535);
        due("17 MUCH: seventeen", plain(17).greatest(1, 0, 131071), MUCH);
        refuses("17 BAD: side", BUSY, BAD, (x, v) -> x.greatest(v, 0, SIX), beyond(0, 1));
        refuses("17 BAD: measure", BUSY, BAD, (x, v) -> x.greatest(0, v, SIX), beyond(0, 1));
        refusesLong("17 BAD: set", BUSY, BAD, (x, w) -> x.greatest(0, 0, w), noSets(6));
    }

    private static void promise18() {
        long[] grown = {7, 12, 24, 32};
        for (int k = 0; k < 4; k++) {
            int at = k;
            keeps("18 k " + k, BUSY, grown[k], x -> x.grown(0, SIX, at));
        }
        keeps("18 k -1", BUSY, 4, x -> x.grown(0, SIX, -1));
        refuses("18 PLACE", BUSY, PLACE, (x, v) -> x.grown(0, SIX, v), 4, -2, 324, MIN, MAX);
        refuses("18 PLACE of none", BUSY, PLACE, (x, v) -> x.grown(1, 0, v), 1, -2);
        refuses("18 BAD: side", BUSY, BAD, (x, v) -> x.grown(v, SIX, 0), beyond(0, 1));
        refusesLong("18 BAD: set", BUSY, BAD, (x, w) -> x.grown(0, w, 0), noSets(6));
        FittingRings y = plain(17);
        due("18 sixteen", y.grown(0, 65535, 15), 1L << 15);
        due("18 MUCH: seventeen", y.grown(0, 131071, 15), MUCH);
        // three threes, one of each: as many as nine points can have
        for (int i = 0; i < 9; i += 3) {
            y.mesh(7L << i, 1);
        }
        due("18 27 of nine", y.grown(1, 511, -1), 27);
        due("18 the 27th", y.grown(1, 511, 26), 4 | 32 | 256);
        due("18 no 28th", y.grown(1, 511, 27), PLACE);
        // four threes and a four: as many as sixteen points can have
        y.mesh(7L << 9, 1);
        y.mesh(15L << 12, 1);
        due("18 324 of sixteen", y.grown(1, 65535, -1), 324);
        due("18 the 324th", y.grown(1, 65535, 323), 4 | 32 | 256 | 2048 | 32768);
        due("18 no 325th", y.grown(1, 65535, 324), PLACE);
    }

    private static void promise19() {
        long[] byNumber = {7, 7, 1};
        long[] byWeight = {24, 24, 1};
        for (int what = 0; what < 3; what++) {
            int w = what;
            keeps("19 by number, what " + w, BUSY, byNumber[w], x -> x.all(0, 0, SIX, w));
            keeps("19 by weight, what " + w, BUSY, byWeight[w], x -> x.all(0, 1, SIX, w));
            keeps("19 of none, what " + w, BUSY, w == 2 ? 1 : 0, x -> x.all(0, 1, 0, w));
            due("19 none is in each of two", plain(2).all(0, 0, 3, w), new long[] {0, 3, 2}[w]);
            due("19 sixteen", plain(16).all(0, 0, 65535, w), new long[] {0, 65535, 16}[w]);
            due("19 MUCH: seventeen", plain(17).all(0, 0, 131071, w), MUCH);
            refuses("19 BAD: side", BUSY, BAD, (x, v) -> x.all(v, 0, SIX, w), beyond(0, 1));
            refuses("19 BAD: measure", BUSY, BAD, (x, v) -> x.all(0, v, SIX, w), beyond(0, 1));
            refusesLong("19 BAD: set", BUSY, BAD, (x, s) -> x.all(0, 0, s, w), noSets(6));
        }
        FittingRings y = plain(3);
        due("19 in any of three", y.all(0, 0, 7, 1), 7);
        due("19 in any of two, after that", y.all(0, 0, 3, 1), 3);
        due("19 how many of two, after that", y.all(0, 0, 3, 2), 2);
        due("19 in each of one, after that", y.all(0, 0, 1, 0), 1);
        refuses("19 BAD: what", BUSY, BAD, (x, v) -> x.all(0, 0, SIX, v), beyond(0, 2));
    }

    /** "The first two POINTS a, b of W (a less than b; by a, then by b) by a TURN of which ..." */
    private static void promise20() {
        keeps("20 less", BUSY, 1, x -> x.turning(0, 0, SIX, 0));
        keeps("20 NONE: more", BUSY, NONE, x -> x.turning(0, 0, SIX, 1));
        keeps("20 NONE: of none, less", BUSY, NONE, x -> x.turning(0, 0, 0, 0));
        keeps("20 NONE: of none, more", BUSY, NONE, x -> x.turning(0, 0, 0, 1));
        keeps("20 NONE: of one, less", BUSY, NONE, x -> x.turning(1, 1, 32, 0));
        keeps("20 NONE: of one, more", BUSY, NONE, x -> x.turning(1, 1, 32, 1));
        keeps("20 two, more", BUSY, 5, x -> x.turning(0, 0, 33, 1));
        keeps("20 two, less", BUSY, 40 * 3 + 4, x -> x.turning(0, 0, 24, 0));
        // one more join makes a four of 2, 3, 4, 5: the last two of them
        FittingRings y = rows(0, 0, 0, 6);
        y.mesh(60, 1);
        y.join(4, 5, 0);
        due("20 more, by the last two", y.turning(0, 0, SIX, 1), 40 * 4 + 5);
        due("20 less: both threes have 2 and 3", y.turning(0, 0, 28 | 32, 0), 40 * 2 + 3);
        due("20 of W alone", y.turning(0, 0, 3, 1), 1);
        due("20 of W alone, a three", y.turning(0, 0, 28, 0), 40 * 2 + 3);
        due("20 nothing is turned", y.count(1), 5);
        // by side 1 the greatest is 0, 1, 4, 5, and each of the others lacks two joins' turns to come to it
        due("20 side 1, less", y.turning(1, 0, SIX, 0), 1);
        due("20 side 1, more", y.turning(1, 0, SIX, 1), NONE);
        due("20 side 1 of a new object", plain(2).turning(1, 0, 3, 0), 1);
        due("20 sixteen", plain(16).turning(0, 0, 65535, 1), 1);
        due("20 MUCH: seventeen", plain(17).turning(0, 0, 131071, 1), MUCH);
        refuses("20 BAD: side", BUSY, BAD, (x, v) -> x.turning(v, 0, SIX, 0), beyond(0, 1));
        refuses("20 BAD: measure", BUSY, BAD, (x, v) -> x.turning(0, v, SIX, 0), beyond(0, 1));
        refuses("20 BAD: more", BUSY, BAD, (x, v) -> x.turning(0, 0, SIX, v), beyond(0, 1));
        refusesLong("20 BAD: set", BUSY, BAD, (x, w) -> x.turning(0, 0, w, 0), noSets(6));
    }

    /** "MUCH: W has more than 10 POINTS." */
    private static void promise21() {
        FittingRings y = plain(40);
        due("21 of none", y.fewest(0, 0), 0);
        due("21 of one", y.fewest(0, 1L << 39), 1);
        due("21 ten that fit", y.fewest(1, 1023), 10);
        due("21 ten that don't", y.fewest(0, 1023), 1);
        due("21 the last ten", y.fewest(1, 1023L << 30), 10);
        due("21 ten apart", y.fewest(1, 0x11111L | 0x11111L << 20), 10);
        due("21 three of forty", y.fewest(1, 7), 3);
        due("21 of none, after that", y.fewest(1, 0), 0);
        due("21 two, and the first isn't of them", plain(3).fewest(1, 6), 2);
        keeps("21 MUCH: eleven", FILLED, MUCH, x -> x.fewest(1, 2047));
        keeps("21 MUCH: the last eleven", FILLED, MUCH, x -> x.fewest(0, 2047L << 29));
        keeps("21 MUCH: eleven apart", FILLED, MUCH, x -> x.fewest(0, 0x11111L | 0x11111L << 20 | 2));
        keeps("21 MUCH: forty", FILLED, MUCH, x -> x.fewest(0, FORTY));
        refuses("21 BAD: side", BUSY, BAD, (x, v) -> x.fewest(v, SIX), beyond(0, 1));
        refusesLong("21 BAD: set", BUSY, BAD, (x, w) -> x.fewest(0, w), noSets(6));
    }

    /** "BAD: side, W; STATE: ring is no RING of POINTS of W." */
    private static void promise22() {
        keeps("22 of none", BUSY, 0, x -> x.better(0, 0, 0));
        keeps("22 from none", BUSY, 7, x -> x.better(0, 0, SIX));
        keeps("22 from all of W", BUSY, 7, x -> x.better(0, 7, 7));
        keeps("22 STATE: no ring", BUSY, STATE, x -> x.better(0, 9, SIX));
        keeps("22 STATE: no ring by the other side", BUSY, STATE, x -> x.better(1, 3, SIX));
        keeps("22 STATE: a ring, but not of W", BUSY, STATE, x -> x.better(0, 3, 62));
        keeps("22 STATE: of none, there is one", BUSY, STATE, x -> x.better(0, 1, 0));
        refusesLong("22 STATE: no points", BUSY, STATE, (x, r) -> x.better(0, r, SIX), noSets(6));
        refuses("22 BAD: side", BUSY, BAD, (x, v) -> x.better(v, 0, SIX), beyond(0, 1));
        refusesLong("22 BAD: W", BUSY, BAD, (x, w) -> x.better(0, 0, w), noSets(6));
    }

    /** "BAD: rule, side, measure, k below 0, SET; NONE: one is OPEN; MUCH." */
    private static void promise23() {
        changes("23 the first rule", BUSY, 1, x -> x.prove(0, 0, 0, 6, SIX), "proof");
        changes("23 the last rule", BUSY, 1, x -> x.prove(4, 0, 1, 38, SIX), "proof");
        changes("23 k 0", BUSY, 1, x -> x.prove(0, 0, 0, 0, 0), "proof");
        changes("23 k as great as can be", BUSY, 1, x -> x.prove(3, 1, 1, MAX, SIX), "proof");
        keeps("23 the one that it is", BUSY, 5, x -> x.prove(0, 0, 0, 3, 15));
        keeps("23 NONE", BUSY, NONE, x -> x.prove(4, 0, 0, 2, SIX));
        keeps("23 NONE, k 0", BUSY, NONE, x -> x.prove(0, 1, 0, 0, 32));
        keeps("23 NONE by weight", BUSY, NONE, x -> x.prove(1, 0, 1, 37, SIX));
        refuses("23 BAD: rule", BUSY, BAD, (x, v) -> x.prove(v, 0, 0, 6, SIX), beyond(0, 4));
        refuses("23 BAD: side", BUSY, BAD, (x, v) -> x.prove(0, v, 0, 6, SIX), beyond(0, 1));
        refuses("23 BAD: measure", BUSY, BAD, (x, v) -> x.prove(0, 0, v, 6, SIX), beyond(0, 1));
        refuses("23 BAD: k below 0", BUSY, BAD, (x, v) -> x.prove(0, 0, 0, v, SIX), -1, MIN);
        refuses("23 BAD: k below 0, of none", BUSY, BAD, (x, v) -> x.prove(0, 0, 0, v, 0), -1, MIN);
        refusesLong("23 BAD: set", BUSY, BAD, (x, w) -> x.prove(0, 0, 0, 6, w), noSets(6));
        Maker pairs = () -> rows(20, 20, 0, 0);
        keeps("23 MUCH", pairs, MUCH, x -> x.prove(0, 0, 0, 2, FORTY));
    }

    /** "PLACE: there is no such place (or no PROOF yet)." */
    private static void promise24() {
        int[] nodes = {2, 1, -1, -1, -1};
        for (int place = 0; place < 5; place++) {
            int p = place;
            keeps("24 place " + p, BUSY, nodes[p], x -> x.proof(p));
        }
        refuses("24 PLACE", BUSY, PLACE, (x, v) -> x.proof(v), 5, -1, 199, 200, MIN, MAX);
        refuses("24 PLACE: no proof yet", BARE, PLACE, (x, v) -> x.proof(v), 0, -1, 1);
        keeps("24 the last of 79", FILLED, -1, x -> x.proof(78));
        refuses("24 PLACE behind 79", FILLED, PLACE, (x, v) -> x.proof(v), 79, -1);
        FittingRings y = BUSY.make();
        y.prove(0, 0, 0, 6, SIX);
        due("24 a lesser one takes its place", y.proof(0), -1);
        due("24 nothing is left of the other", y.proof(1), PLACE);
    }

    /** "BAD: sheet, or as of prove(); NOTHING." */
    private static void promise25() {
        refuses("25 BAD: sheet", BUSY, BAD, (x, v) -> x.check(v, 0, 0, 0, 6, SIX), beyond(0, 3));
        refuses("25 BAD: rule", BUSY, BAD, (x, v) -> x.check(0, v, 0, 0, 6, SIX), beyond(0, 4));
        refuses("25 BAD: side", BUSY, BAD, (x, v) -> x.check(0, 0, v, 0, 6, SIX), beyond(0, 1));
        refuses("25 BAD: measure", BUSY, BAD, (x, v) -> x.check(0, 0, 0, v, 6, SIX), beyond(0, 1));
        refuses("25 BAD: k below 0", BUSY, BAD, (x, v) -> x.check(0, 0, 0, 0, v, SIX), -1, MIN);
        refusesLong("25 BAD: set", BUSY, BAD, (x, w) -> x.check(0, 0, 0, 0, 6, w), noSets(6));
        keeps("25 NOTHING", BUSY, NOTHING, x -> x.check(3, 4, 1, 1, 0, 0));
        FittingRings y = plain(40);
        for (int sheet = 0; sheet < 4; sheet++) {
            row(y, sheet, sheet % 3, -1);
            due("25 a leaf, sheet " + sheet, y.check(sheet, sheet, 0, 0, 40, FORTY), NONE);
            due("25 k as great as can be", y.check(sheet, sheet + 1, 1, 1, MAX, FORTY), NONE);
            due("25 k 0 of none", y.check(sheet, 4, 1, 1, 0, 0), NONE);
        }
        due("25 just enough for a leaf", y.check(0, 0, 0, 0, 40, FORTY), NONE);
        due("25 one too few for a leaf", y.check(0, 0, 0, 0, 39, FORTY), 0);
    }

    /** "... the first place whose number can't be there, where one lacks, or where there is one too many." */
    private static void promise25ByPlaces() {
        FittingRings x = plain(40);
        x.sheet(0, 0, 0);
        due("25 the first one lacks", x.check(0, 0, 0, 0, 40, FORTY), 0);
        due("25 it lacks, of none too", x.check(0, 0, 0, 0, 0, 0), 0);
        int[] wrongNumbers = {-2, 40, 63, 64, 64 + 39, MIN, MAX};
        for (int v : wrongNumbers) {
            row(x, 1, 2, v, -1, -1);
            due("25 no point of S: " + v, x.check(1, 0, 0, 0, 40, FORTY), 0);
        }
        row(x, 1, 2, 39, -1, -1);
        due("25 the last point", x.check(1, 0, 0, 0, 39, FORTY), NONE);
        due("25 it isn't of S", x.check(1, 0, 0, 0, 39, FORTY >> 1), 0);
        row(x, 1, 2, 0, -1, -1);
        due("25 the first point", x.check(1, 0, 0, 0, 39, FORTY), NONE);
        row(x, 1, 2, 0, 0, -1, -1);
        due("25 it isn't of those that fit it", x.check(1, 0, 0, 0, 39, FORTY), 1);
        row(x, 1, 2, 0, -1, 0);
        due("25 nor of those without it", x.check(1, 0, 0, 0, 39, FORTY), 2);
        row(x, 1, 2, 0, -1);
        due("25 the last one lacks", x.check(1, 0, 0, 0, 39, FORTY), 2);
        row(x, 1, 2, 0, -1, -1, -1);
        due("25 one too many", x.check(1, 0, 0, 0, 39, FORTY), 3);
        row(x, 1, 2, 0, -1, -1, 7, 7);
        due("25 two too many, whatever they are", x.check(1, 0, 0, 0, 39, FORTY), 3);
        // forty branches, each among those that fit the one ahead, leave 41 leaves to come: too many for a row
        x.mesh(FORTY, 1);
        x.sheet(2, 0, 60);
        for (int i = 0; i < 60; i++) {
            x.cell(2, i, i < 40 ? i : -1);
        }
        due("25 forty branches, and one lacks behind sixty", x.check(2, 0, 0, 0, 40, FORTY), 60);
        due("25 k one too low: the first leaf can't be", x.check(2, 0, 0, 0, 39, FORTY), 40);
        x.cell(2, 40, 0);
        due("25 no point of the set of none", x.check(2, 0, 0, 0, 40, FORTY), 40);
    }

    /** "BAD; STATE: there is none; FULL: it has more than 60." */
    private static void promise26() {
        changes("26 the first sheet", BUSY, 5, x -> x.writes(0), "sheet0", "sorts");
        changes("26 a row of shorts", BUSY, 5, x -> x.writes(1), "sheet1");
        changes("26 the last sheet", BUSY, 5, x -> x.writes(3), "sheet3", "sorts");
        refuses("26 BAD: sheet", BUSY, BAD, (x, v) -> x.writes(v), beyond(0, 3));
        refuses("26 STATE", BARE, STATE, (x, v) -> x.writes(v), 0, 1, 2, 3);
        refuses("26 FULL", FILLED, FULL, (x, v) -> x.writes(v), 0, 1, 2, 3);
        // how many nodes there are is always odd
        FittingRings y = plain(40);
        due("26 59 nodes", y.prove(0, 0, 0, 11, FORTY), 59);
        due("26 they have room", y.writes(2), 59);
        due("26 the first", y.read(2, 0), 39);
        due("26 the last", y.read(2, 58), -1);
        due("26 no more", y.read(2, 59), PLACE);
        due("26 it is a proof", y.check(2, 0, 0, 0, 11, FORTY), NONE);
        due("26 61 nodes", y.prove(0, 0, 0, 10, FORTY), 61);
        due("26 they have not", y.writes(2), FULL);
        due("26 the sheet is as it was", y.read(2, 58), -1);
        due("26 with as many places", y.read(2, 59), PLACE);
    }

    /** "... one of 0 or more ...; else -100 less the least POINT of W that has none such, or FITS a lesser POINT ..." */
    private static void promise27() {
        refuses("27 BAD: sheet", BUSY, BAD, (x, v) -> x.cover(v, 0, 0, 1), beyond(0, 3));
        refuses("27 BAD: side", BUSY, BAD, (x, v) -> x.cover(2, v, 0, 1), beyond(0, 1));
        refuses("27 BAD: measure", BUSY, BAD, (x, v) -> x.cover(2, 0, v, 1), beyond(0, 1));
        refusesLong("27 BAD: set", BUSY, BAD, (x, w) -> x.cover(2, 0, 0, w), noSets(6));
        keeps("27 NOTHING", BUSY, NOTHING, x -> x.cover(3, 0, 0, 0));
        keeps("27 of none", BUSY, 0, x -> x.cover(2, 0, 1, 0));
        keeps("27 a number below 0", BUSY, -101, x -> x.cover(2, 0, 1, SIX));
        keeps("27 the others have one each", BUSY, 5, x -> x.cover(2, 0, 0, 61));
        keeps("27 their weights", BUSY, 54, x -> x.cover(2, 0, 1, 61));
        keeps("27 a place lacks", BUSY, -103, x -> x.cover(1, 0, 0, 13));
        keeps("27 places enough", BUSY, 2, x -> x.cover(1, 0, 0, 5));
        FittingRings y = plain(40);
        y.sheet(0, 2, 40);
        due("27 number 0", y.cover(0, 0, 0, FORTY), 1);
        due("27 each fits the first", y.cover(0, 1, 0, FORTY), -101);
        y.join(38, 39, 1);
        due("27 the last fits one", y.cover(0, 0, 0, FORTY), -139);
        y.cell(0, 39, MAX);
        due("27 a number as great as can be", y.cover(0, 0, 0, FORTY), 2);
        y.cell(0, 39, -1);
        due("27 number -1", y.cover(0, 0, 0, FORTY), -139);
        y.cell(0, 39, MIN);
        due("27 a number as low as can be", y.cover(0, 0, 0, FORTY), -139);
        y.sheet(0, 0, 39);
        due("27 the last place lacks", y.cover(0, 0, 0, FORTY), -139);
        due("27 it isn't asked", y.cover(0, 0, 0, FORTY >> 1), 1);
        y.sheet(0, 0, 60);
        y.cell(0, 39, 1);
        y.cell(0, 59, 2);
        due("27 places of no points do not count", y.cover(0, 0, 0, FORTY), 2);
    }

    private static void promise28() {
        changes("28 the first sheet", BUSY, 3, x -> x.film(0, 0, SIX), "sheet0");
        changes("28 the last sheet", BUSY, 0, x -> x.film(3, 1, 0), "sheet3", "sorts");
        refuses("28 BAD: sheet", BUSY, BAD, (x, v) -> x.film(v, 0, SIX), beyond(0, 3));
        refuses("28 BAD: side", BUSY, BAD, (x, v) -> x.film(0, v, SIX), beyond(0, 1));
        refusesLong("28 BAD: set", BUSY, BAD, (x, w) -> x.film(0, 0, w), noSets(6));
        FittingRings y = plain(40);
        y.sheet(0, 2, 60);
        due("28 forty classes", y.film(0, 1, FORTY), 40);
        due("28 the first point is of the last", y.read(0, 0), 39);
        due("28 the last is of the first", y.read(0, 39), 0);
        due("28 a place for each", y.read(0, 40), PLACE);
        due("28 of bytes", y.cell(0, 0, 128), -128);
        due("28 the last point alone", y.film(0, 0, 1L << 39), 1);
        due("28 it is of the first class", y.read(0, 39), 0);
        due("28 another isn't of the set", y.read(0, 38), -1);
    }

    /** "... PLACE: it has fewer places than there are POINTS; STATE: it would be by none." */
    private static void promise29() {
        refuses("29 BAD: sheet", BUSY, BAD, (x, v) -> x.slip(v, 0), beyond(0, 3));
        refuses("29 BAD: side", BUSY, BAD, (x, v) -> x.slip(2, v), beyond(0, 1));
        keeps("29 NOTHING", BUSY, NOTHING, x -> x.slip(3, 0));
        keeps("29 PLACE", BUSY, PLACE, x -> x.slip(0, 0));
        keeps("29 PLACE: 39 of forty", FILLED, PLACE, x -> x.slip(0, 0));
        keeps("29 NONE: forty of forty", FILLED, NONE, x -> x.slip(2, 0));
        keeps("29 STATE", FILLED, STATE, x -> x.slip(2, 1));
        FittingRings none = new FittingRings();
        none.sheet(0, 0, 0);
        due("29 no places, no points", none.slip(0, 0), NONE);
        FittingRings one = plain(1);
        row(one, 0, 0, 0);
        due("29 one point", one.slip(0, 1), NONE);
        row(one, 0, 0, 1);
        due("29 one point can't be turned", one.slip(0, 1), STATE);
        FittingRings two = plain(2);
        row(two, 0, 0, 1, 1);
        due("29 two, by a turn", two.slip(0, 0), 1);
        due("29 two, by none", two.slip(0, 1), NONE);
        row(two, 0, 0, 0, 0);
        due("29 two by side 1, by a turn", two.slip(0, 1), 1);
        row(two, 0, 0, -1, -1);
        due("29 two, below 0", two.slip(0, 0), STATE);
        row(two, 0, 0, 2, 2);
        due("29 two, too many", two.slip(0, 1), STATE);
        row(two, 0, 0, 1, 2);
        due("29 two, one of them right", two.slip(0, 0), STATE);
        row(two, 0, 0, 2, 1);
        due("29 two, the other one right", two.slip(0, 0), STATE);
        FittingRings y = plain(40);
        y.sheet(1, 0, 60);
        y.cell(1, 38, 1);
        y.cell(1, 39, 1);
        due("29 the last two", y.slip(1, 0), 40 * 38 + 39);
        y.cell(1, 38, 0);
        y.cell(1, 0, 1);
        due("29 the first and the last", y.slip(1, 0), 39);
        y.cell(1, 59, 7);
        due("29 places of no points do not count", y.slip(1, 0), 39);
        y.join(0, 39, 1);
        due("29 it is so then", y.slip(1, 0), NONE);
        y.cell(1, 0, 257);
        due("29 a byte alone", y.slip(1, 0), NONE);
        y.cell(1, 0, 2);
        due("29 one point alone is wrong", y.slip(1, 0), STATE);
    }

    /** "The first n (1 .. 8) of eight bytes ... BAD; FULL: they have not all room." */
    private static void promise30() {
        changes("30 n 1", BUSY, 9, x -> x.feed(1, -1), "tape");
        changes("30 n 8", BUSY, 16, x -> x.feed(8, -1), "tape");
        refuses("30 BAD: n", BUSY, BAD, (x, v) -> x.feed(v, -1), beyond(1, 8));
        refuses("30 FULL", FILLED, FULL, (x, v) -> x.feed(v, -1), 1, 2, 7, 8);
        for (int room = 1; room <= 8; room++) {
            FittingRings y = new FittingRings();
            write(y, "x".repeat(160 - room));
            if (room < 8) {
                due("30 they have not all room: " + (room + 1), y.feed(room + 1, 0), FULL);
                due("30 none of them came", y.count(2), 160 - room);
            }
            due("30 they have room: " + room, y.feed(room, 0), 160);
            due("30 it is full", y.feed(1, 0), FULL);
        }
        FittingRings z = plain(2);
        due("30 the highest first, one", z.feed(1, 0x6a31313131313131L), 1);
        due("30 the highest first, six", z.feed(6, 0x6f696e3020317878L), 7);
        due("30 what is beyond n does not come", z.text(), 1);
        due("30 join0 1", z.count(1), 1);
        due("30 a byte with its highest bit", z.feed(1, 0xFF00000000000000L), 1);
        due("30 begins no token", z.text(), -100);
    }

    /** "THE TAPE, which is empty then, is read: how many STATEMENTS; -100 less the FAULT." */
    private static void promise31() {
        FittingRings x = plain(2);
        due("31 one statement", say(x, "join 0 1"), 1);
        due("31 the tape is empty then", x.count(2), 0);
        due("31 read again", x.text(), -100);
        due("31 two statements", say(x, "cut 0 1;join 0 1"), 2);
        due("31 a fault at 0", say(x, "x"), -100);
        due("31 the tape is empty then too", x.count(2), 0);
        due("31 a fault at the last byte", say(x, "join 0 2"), -107);
        due("31 a fault behind the last byte", say(x, "join 0"), -106);
        String blanks = " ".repeat(160);
        due("31 160 blanks", say(x, blanks), -260);
        due("31 152 blanks and a statement", say(x, blanks.substring(8) + "join 0 1"), 1);
        due("31 159 blanks and a byte", say(x, blanks.substring(1) + "?"), -259);
        String[] names = {"point", "loud", "shy", "proud", "meek", "lone"};
        for (int kind = 0; kind < 6; kind++) {
            FittingRings y = new FittingRings();
            due("31 point " + names[kind], say(y, "point " + names[kind] + " 5"), 1);
            due("31 of that kind", y.told(0, 0), kind);
            String less = names[kind].substring(1);
            due("31 a letter less", say(y, "point " + less + " 5"), -106);
            due("31 a letter more", say(y, "point " + names[kind] + "s 5"), -106);
            due("31 a name is no statement", say(y, names[kind]), kind == 0 ? -105 : -100);
        }
        String[] verbs = {"join", "cut", "all", "ring", "flip", "point"};
        for (String verb : verbs) {
            due("31 a letter more: " + verb, say(plain(3), verb + "s 0 1"), -100);
            due("31 a letter less: " + verb, say(plain(3), verb.substring(0, verb.length() - 1) + " 0 1"), -100);
        }
    }

    /** "n (1 .. 40) POINTS more ... odds, 0 .. 10 ... BAD; FULL: they have not all room." */
    private static void promise32() {
        due("32 n 1", new FittingRings().deal(5, 1, 5), 1);
        due("32 n 40", new FittingRings().deal(5, 40, 5), 40);
        refuses("32 BAD: n", BARE, BAD, (x, v) -> x.deal(5, v, 5), beyond(1, 40));
        refuses("32 BAD: n, of six", BUSY, BAD, (x, v) -> x.deal(5, v, 5), beyond(1, 40));
        refuses("32 BAD: odds", BUSY, BAD, (x, v) -> x.deal(5, 1, v), beyond(0, 10));
        changes("32 all that have room", BUSY, 40, x -> x.deal(5, 34, 5), "net");
        refuses("32 FULL", BUSY, FULL, (x, v) -> x.deal(5, v, 5), 35, 36, 39, 40);
        refuses("32 FULL at forty", FILLED, FULL, (x, v) -> x.deal(5, v, 0), 1, 40);
        FittingRings none = BUSY.make();
        due("32 odds 0", none.deal(5, 10, 0), 16);
        due("32 none are joined", none.count(1), 5);
        FittingRings all = BUSY.make();
        due("32 odds 10", all.deal(5, 10, 10), 16);
        due("32 all are joined, to those ahead too", all.count(1), 5 + 15 * 16 / 2 - 15);
        // a draw that gives just the odds does not join, one that gives less does
        long z = 0;
        int[] draws = new int[5];
        for (int i = 0; i < 5; i++) {
            z = (z * 1103515245L + 12345L) & 0xFFFFFFFFL;
            draws[i] = (int) (z / 256);
        }
        int drawn = draws[4] % 10;
        FittingRings just = new FittingRings();
        just.deal(0, 2, drawn);
        due("32 just the odds", just.count(1), 0);
        FittingRings less = new FittingRings();
        less.deal(0, 2, drawn + 1);
        due("32 less than the odds", less.count(1), 1);
        due("32 the first point draws for none", less.told(1, 0), draws[2] % 6);
    }

    /** "m (1 .. 12) nets ... n (0 .. 10) POINTS ... part 0 above, 1 below the line, in lowest terms (0: 0 and 1). BAD." */
    private static void promise33() {
        for (int part = 0; part < 2; part++) {
            int p = part;
            keeps("33 m 1", BUSY, p == 0 ? 10 : 1, x -> x.mean(5, 1, 10, 10, p));
            keeps("33 m 12", BUSY, p == 0 ? 10 : 1, x -> x.mean(5, 12, 10, 10, p));
            keeps("33 n 0, m 1", BUSY, p, x -> x.mean(5, 1, 0, 5, p));
            keeps("33 n 0, m 12", BUSY, p, x -> x.mean(5, 12, 0, 5, p));
            keeps("33 n 1", BUSY, 1, x -> x.mean(5, 12, 1, 5, p));
            keeps("33 odds 0", BUSY, 1, x -> x.mean(5, 12, 10, 0, p));
            refuses("33 BAD: m", BUSY, BAD, (x, v) -> x.mean(5, v, 3, 5, p), beyond(1, 12));
            refuses("33 BAD: n", BUSY, BAD, (x, v) -> x.mean(5, 3, v, 5, p), beyond(0, 10));
            refuses("33 BAD: odds", BUSY, BAD, (x, v) -> x.mean(5, 3, 3, v, p), beyond(0, 10));
        }
        refuses("33 BAD: part", BUSY, BAD, (x, v) -> x.mean(5, 3, 3, 5, v), beyond(0, 1));
        // nets in thought, and then its own again
        FittingRings own = plain(3);
        due("33 ten that all fit", own.mean(5, 1, 10, 10, 0), 10);
        due("33 its own are fewest", own.fewest(0, 7), 1);
        own.mean(5, 1, 10, 10, 0);
        due("33 its own are greatest", own.greatest(0, 0, 7), 1);
        own.mean(5, 1, 10, 10, 0);
        due("33 its own are turned", own.turning(0, 0, 7, 1), 1);
        due("33 side 1 ahead of nets in thought", own.turning(1, 0, 7, 0), 1);
        due("33 they are by side 0", own.mean(5, 1, 10, 10, 0), 10);
        keeps("33 of forty points too", FILLED, 10, x -> x.mean(5, 12, 10, 10, 0));
        // nets of two: one draw each, one behind the other
        int[] seeds = {0, -1, MIN, MAX, 77};
        for (int seed : seeds) {
            for (int odds = 0; odds <= 10; odds++) {
                for (int m = 1; m <= 12; m += 11) {
                    meanOfTwos(new FittingRings(), seed, m, odds);
                }
            }
        }
    }

    private static void meanOfTwos(FittingRings x, int seed, int m, int odds) {
        long z = seed & 0xFFFFFFFFL;
        int above = m;
        for (int i = 0; i < m; i++) {
            z = (z * 1103515245L + 12345L) & 0xFFFFFFFFL;
            above += (z / 256) % 10 < odds ? 1 : 0;
        }
        int below = m;
        for (int d = 2; d <= m; d++) {
            while (above % d == 0 && below % d == 0) {
                above /= d;
                below /= d;
            }
        }
        due("33 above, seed " + seed + ", m " + m + ", odds " + odds, x.mean(seed, m, 2, odds, 0), above);
        due("33 below, seed " + seed + ", m " + m + ", odds " + odds, x.mean(seed, m, 2, odds, 1), below);
    }

    /** "A HAND holds nothing (sort 0; v does not matter), POINT v (1), RULE v (2), the SET v (3): which sort it held. BAD." */
    private static void promise34() {
        changes("34 the first hand", BUSY, 1, x -> x.hold(0, 0, 0), "hand0");
        changes("34 the last hand", BUSY, 0, x -> x.hold(3, 3, 0), "hand3");
        keeps("34 nothing for nothing", BUSY, 0, x -> x.hold(3, 0, -1));
        refuses("34 BAD: hand", BUSY, BAD, (x, v) -> x.hold(v, 0, 0), beyond(0, 3));
        for (int hand = 0; hand < 4; hand++) {
            int h = hand;
            refuses("34 BAD: sort", BUSY, BAD, (x, v) -> x.hold(h, v, 0), beyond(0, 3));
            refusesLong("34 BAD: point", BUSY, BAD, (x, v) -> x.hold(h, 1, v),
                6, -1, 40, 1L << 32, (1L << 32) + 5, -1L << 32, Long.MIN_VALUE, Long.MAX_VALUE);
            refusesLong("34 BAD: rule", BUSY, BAD, (x, v) -> x.hold(h, 2, v),
                5, -1, 1L << 32, (1L << 32) + 4, -1L << 32, Long.MIN_VALUE, Long.MAX_VALUE);
        }
        long[] any = {0, 5, 6, -1, Long.MIN_VALUE, Long.MAX_VALUE};
        for (long v : any) {
            due("34 nothing, v does not matter", BUSY.make().hold(0, 0, v), 1);
            FittingRings x = BUSY.make();
            due("34 the set of any long", x.hold(1, 3, v), 2);
            due("34 that set", x.handLess(1, 0), v);
        }
        FittingRings x = BUSY.make();
        due("34 the first point", x.hold(3, 1, 0), 0);
        due("34 its figure", x.handAs(3, 0), 9);
        due("34 the last point", x.hold(3, 1, 5), 1);
        due("34 its figure", x.handAs(3, 5), 3);
        due("34 the first rule", x.hold(3, 2, 0), 1);
        due("34 it is COUNT", x.handBound(3, 0, 1, SIX), 70);
        due("34 rule 1", x.hold(3, 2, 1), 2);
        due("34 it is COLOURS", x.handBound(3, 0, 1, SIX), 49);
        due("34 the last rule", x.hold(3, 2, 4), 2);
        due("34 it is BEST", x.handBound(3, 0, 1, SIX), 38);
        due("34 a point of none", new FittingRings().hold(0, 1, 0), BAD);
        due("34 the last of forty", plain(40).hold(0, 1, 39), 0);
        due("34 no 41st", plain(40).hold(0, 1, 40), BAD);
    }

    /** "BAD: hand, kind; NOTHING; KIND: it holds another thing, or is of another KIND." */
    private static void promise35() {
        refuses("35 BAD: hand", BUSY, BAD, (x, v) -> x.handAs(v, 0), beyond(0, 3));
        for (int hand = 0; hand < 4; hand++) {
            int h = hand;
            refuses("35 BAD: kind", BUSY, BAD, (x, v) -> x.handAs(h, v), beyond(0, 5));
        }
        refuses("35 NOTHING", BUSY, NOTHING, (x, v) -> x.handAs(3, v), 0, 1, 2, 3, 4, 5);
        refuses("35 KIND: a rule", BUSY, KIND, (x, v) -> x.handAs(1, v), 0, 1, 2, 3, 4, 5);
        refuses("35 KIND: a set", BUSY, KIND, (x, v) -> x.handAs(2, v), 0, 1, 2, 3, 4, 5);
        refuses("35 KIND: a PROUD one is none of these", BUSY, KIND, (x, v) -> x.handAs(0, v), 2, 4, 5);
        refuses("35 a PROUD one is one of these", BUSY, 6, (x, v) -> x.handAs(0, v), 0, 1, 3);
        // one that is above is not taken for one that is under it
        int[][] under = {{0}, {0, 1}, {0, 2}, {0, 1, 3}, {0, 2, 4}, {0, 5}};
        for (int kind = 0; kind < 6; kind++) {
            FittingRings y = new FittingRings();
            y.point(kind, 0);
            y.hold(0, 1, 0);
            int taken = 0;
            for (int as = 0; as < 6; as++) {
                taken |= y.handAs(0, as) == 0 ? 1 << as : 0;
            }
            int want = 0;
            for (int as : under[kind]) {
                want |= 1 << as;
            }
            due("35 a point of figure 0, of kind " + kind, taken, want);
        }
    }

    private static void promises36And37() {
        refuses("36 BAD: hand", BUSY, BAD, (x, v) -> x.handBound(v, 0, 0, SIX), beyond(0, 3));
        for (int hand = 0; hand < 4; hand++) {
            int h = hand;
            refuses("36 BAD: side", BUSY, BAD, (x, v) -> x.handBound(h, v, 0, SIX), beyond(0, 1));
            refuses("36 BAD: measure", BUSY, BAD, (x, v) -> x.handBound(h, 0, v, SIX), beyond(0, 1));
            refusesLong("36 BAD: set", BUSY, BAD, (x, w) -> x.handBound(h, 0, 0, w), noSets(6));
        }
        keeps("36 NOTHING", BUSY, NOTHING, x -> x.handBound(3, 0, 0, SIX));
        keeps("36 KIND: a point", BUSY, KIND, x -> x.handBound(0, 0, 0, SIX));
        keeps("36 KIND: a set", BUSY, KIND, x -> x.handBound(2, 0, 0, SIX));
        keeps("36 of all", BUSY, 3, x -> x.handBound(1, 0, 0, SIX));
        keeps("36 of none", BUSY, 0, x -> x.handBound(1, 1, 1, 0));
        for (int rule = 0; rule < 5; rule++) {
            FittingRings y = BUSY.make();
            y.hold(0, 2, rule);
            due("36 as bound() by rule " + rule, y.handBound(0, 0, 1, SIX), new int[] {70, 49, 38, 38, 38}[rule]);
        }
        refuses("37 BAD: hand", BUSY, BAD, (x, v) -> (int) x.handLess(v, 0), beyond(0, 3));
        keeps("37 NOTHING", BUSY, NOTHING, x -> x.handLess(3, 0));
        keeps("37 KIND: a point", BUSY, KIND, x -> x.handLess(0, 0));
        keeps("37 KIND: a rule", BUSY, KIND, x -> x.handLess(1, 0));
        keeps("37 without none", BUSY, Long.MIN_VALUE | 6, x -> x.handLess(2, 0));
        keeps("37 without the highest", BUSY, 6, x -> x.handLess(2, Long.MIN_VALUE));
        keeps("37 without all others", BUSY, 0, x -> x.handLess(2, -1));
        keeps("37 without those that it hasn't", BUSY, Long.MIN_VALUE | 6, x -> x.handLess(2, 9));
        FittingRings y = new FittingRings();
        y.hold(2, 3, -1);
        due("37 a set of all bits", y.handLess(2, 0), -1);
        due("37 less the lowest", y.handLess(2, 1), -2);
        due("37 less the highest", y.handLess(2, Long.MIN_VALUE), Long.MAX_VALUE);
    }

    /** "BAD: no such sheet, sort, n above 60; SIZE: n below 0." */
    private static void promise38() {
        changes("38 the first sheet", BUSY, 1, x -> x.sheet(0, 0, 4), "sheet0");
        changes("38 the last sheet", BUSY, 1, x -> x.sheet(3, 2, 60), "sheet3", "sorts");
        changes("38 a row of none", BUSY, 1, x -> x.sheet(2, 2, 0), "sheet2");
        refuses("38 BAD: no such sheet", BUSY, BAD, (x, v) -> x.sheet(v, 0, 1), beyond(0, 3));
        refuses("38 BAD: no such sheet, missing", BUSY, BAD, (x, v) -> x.sheet(v, -1, 1), beyond(0, 3));
        refuses("38 BAD: sort", BUSY, BAD, (x, v) -> x.sheet(0, v, 1), beyond(-1, 2));
        for (int sort = 0; sort < 3; sort++) {
            int s = sort;
            refuses("38 BAD: n above 60", BUSY, BAD, (x, v) -> x.sheet(s, s, v), 61, 62, MAX);
            refuses("38 SIZE: n below 0", BUSY, SIZE, (x, v) -> x.sheet(s, s, v), -1, -2, MIN);
        }
        int[] any = {0, 1, 60, 61, -1, MIN, MAX};
        for (int n : any) {
            changes("38 missing, n does not matter", BUSY, 1, x -> x.sheet(0, -1, n), "sheet0", "sorts");
            keeps("38 missing as it was", BUSY, 1, x -> x.sheet(3, -1, n));
        }
        FittingRings y = BUSY.make();
        y.sheet(2, 2, 60);
        for (int i = 0; i < 60; i++) {
            due("38 all 0", y.read(2, i), 0);
        }
        y.cell(2, 59, 7);
        y.sheet(2, 2, 1);
        y.sheet(2, 2, 60);
        due("38 all 0, after a lesser one too", y.read(2, 59), 0);
        y.cell(2, 59, 7);
        y.sheet(2, -1, 0);
        y.sheet(2, 2, 60);
        due("38 all 0, after none too", y.read(2, 59), 0);
    }

    /** "Place i of a SHEET becomes v (of bytes, shorts its lowest 8, 16 bits): as it is then. BAD; NOTHING; PLACE." */
    private static void promise39() {
        refuses("39 BAD", BUSY, BAD, (x, v) -> x.cell(v, 0, 1), beyond(0, 3));
        refuses("39 NOTHING", BUSY, NOTHING, (x, v) -> x.cell(3, v, 1), 0, -1, 60, MIN, MAX);
        refuses("39 PLACE of four", BUSY, PLACE, (x, v) -> x.cell(0, v, 1), beyond(0, 3));
        refuses("39 PLACE of three", BUSY, PLACE, (x, v) -> x.cell(1, v, 1), beyond(0, 2));
        refuses("39 PLACE of six", BUSY, PLACE, (x, v) -> x.cell(2, v, 1), beyond(0, 5));
        changes("39 the first place", BUSY, 1, x -> x.cell(0, 0, 1), "sheet0");
        changes("39 the last place", BUSY, 1, x -> x.cell(2, 5, 1), "sheet2");
        int[] given = {0, 127, 128, 255, 256, -1, -128, -129, 32767, 32768, 65535, 65536, -32768, -32769, MIN, MAX};
        int[] bytes = {0, 127, -128, -1, 0, -1, -128, 127, -1, 0, -1, 0, 0, -1, 0, -1};
        int[] shorts = {0, 127, 128, 255, 256, -1, -128, -129, 32767, -32768, -1, 0, -32768, 32767, 0, -1};
        FittingRings y = BUSY.make();
        for (int i = 0; i < given.length; i++) {
            due("39 a byte of " + given[i], y.cell(0, 0, given[i]), bytes[i]);
            due("40 a byte of " + given[i], y.read(0, 0), bytes[i]);
            due("39 a short of " + given[i], y.cell(1, 0, given[i]), shorts[i]);
            due("40 a short of " + given[i], y.read(1, 0), shorts[i]);
            due("39 an int of " + given[i], y.cell(2, 0, given[i]), given[i]);
            due("40 an int of " + given[i], y.read(2, 0), given[i]);
        }
    }

    private static void promise40() {
        refuses("40 BAD", BUSY, BAD, (x, v) -> x.read(v, 0), beyond(0, 3));
        refuses("40 NOTHING", BUSY, NOTHING, (x, v) -> x.read(3, v), 0, -1, 60, MIN, MAX);
        refuses("40 PLACE of four", BUSY, PLACE, (x, v) -> x.read(0, v), beyond(0, 3));
        refuses("40 PLACE of three", BUSY, PLACE, (x, v) -> x.read(1, v), beyond(0, 2));
        refuses("40 PLACE of six", BUSY, PLACE, (x, v) -> x.read(2, v), beyond(0, 5));
        keeps("40 the first place", BUSY, 5, x -> x.read(0, 0));
        keeps("40 the last place", BUSY, 4, x -> x.read(2, 5));
    }

    /** "BAD: a sheet; NOTHING: one is missing; KIND: they are of unlike sorts; PLACE (also n below 0)." */
    private static void promise41() {
        refuses("41 BAD: from", BUSY, BAD, (x, v) -> x.copy(v, 0, 0, 0, 0), beyond(0, 3));
        refuses("41 BAD: to", BUSY, BAD, (x, v) -> x.copy(0, 0, v, 0, 0), beyond(0, 3));
        refuses("41 NOTHING: from", BUSY, NOTHING, (x, v) -> x.copy(3, 0, v, 0, 0), 0, 1, 2, 3);
        refuses("41 NOTHING: to", BUSY, NOTHING, (x, v) -> x.copy(v, 0, 3, 0, 0), 0, 1, 2, 3);
        refuses("41 KIND: bytes", BUSY, KIND, (x, v) -> x.copy(0, 0, v, 0, 0), 1, 2);
        refuses("41 KIND: shorts", BUSY, KIND, (x, v) -> x.copy(1, 0, v, 0, 0), 0, 2);
        refuses("41 KIND: ints", BUSY, KIND, (x, v) -> x.copy(2, 0, v, 0, 0), 0, 1);
        refuses("41 PLACE: i of all six", BUSY, PLACE, (x, v) -> x.copy(2, v, 2, 0, 6), 1, -1, 6, MIN, MAX);
        refuses("41 PLACE: j of all six", BUSY, PLACE, (x, v) -> x.copy(2, 0, 2, v, 6), 1, -1, 6, MIN, MAX);
        refuses("41 PLACE: n", BUSY, PLACE, (x, v) -> x.copy(2, 0, 2, 0, v), 7, -1, MIN, MAX);
        refuses("41 PLACE: n from the third", BUSY, PLACE, (x, v) -> x.copy(2, 2, 2, 0, v), 5, -1, MIN, MAX, MAX - 1);
        refuses("41 PLACE: n to the third", BUSY, PLACE, (x, v) -> x.copy(2, 0, 2, 2, v), 5, -1, MIN, MAX, MAX - 1);
        refuses("41 PLACE: none from beyond", BUSY, PLACE, (x, v) -> x.copy(2, v, 2, 0, 0), 7, -1, MIN, MAX);
        refuses("41 PLACE: none to beyond", BUSY, PLACE, (x, v) -> x.copy(2, 0, 2, v, 0), 7, -1, MIN, MAX);
        keeps("41 all six, where they are", BUSY, 6, x -> x.copy(2, 0, 2, 0, 6));
        keeps("41 none, from behind the last place", BUSY, 0, x -> x.copy(2, 6, 2, 6, 0));
        changes("41 the last to the first", BUSY, 1, x -> x.copy(2, 5, 2, 0, 1), "sheet2");
        changes("41 all that has room", BUSY, 4, x -> x.copy(2, 0, 2, 2, 4), "sheet2");
        FittingRings y = BUSY.make();
        y.sheet(3, 2, 60);
        due("41 to the end of another one", y.copy(2, 0, 3, 54, 6), 6);
        due("41 the first came", y.read(3, 54), 70000);
        due("41 the last came", y.read(3, 59), 4);
        due("41 none came ahead", y.read(3, 53), 0);
        due("41 one place too far", y.copy(2, 0, 3, 55, 6), PLACE);
        due("41 a row of none from one of none", y.sheet(0, 2, 0) * 10 + y.copy(0, 0, 0, 0, 0), 10);
        due("41 one of none", y.copy(0, 0, 3, 0, 1), PLACE);
        due("41 as they were, forward", y.copy(2, 0, 2, 1, 5), 5);
        int[] forward = {70000, 70000, -70000, 1, 2, 3};
        for (int i = 0; i < 6; i++) {
            due("41 forward, place " + i, y.read(2, i), forward[i]);
        }
        due("41 as they were, backward", y.copy(2, 2, 2, 0, 4), 4);
        int[] backward = {-70000, 1, 2, 3, 2, 3};
        for (int i = 0; i < 6; i++) {
            due("41 backward, place " + i, y.read(2, i), backward[i]);
        }
    }

    /** "STATE: there is none." */
    private static void promises42And43() {
        keeps("43 STATE", BARE, STATE, x -> x.back());
        Maker withoutImage = () -> {
            FittingRings x = plain(3);
            x.join(0, 2, 1);
            return x;
        };
        keeps("43 STATE, with points", withoutImage, STATE, x -> x.back());
        due("42 of none", new FittingRings().image(), 0);
        due("42 of forty", plain(40).image(), 40);
        changes("43 back", BUSY, 5, x -> x.back(), "net");
        FittingRings y = BUSY.make();
        due("43 back", y.back(), 5);
        due("43 and again", y.back(), 5);
        due("43 the sixth is no more", y.told(5, 0), BAD);
        due("43 nor is it in a set", y.measure(0, 32), BAD);
        due("42 a new image takes its place", y.point(1, 1) * 10 + y.image(), 56);
        y.mesh(SIX, 1);
        due("43 back to that", y.back(), 6);
        due("43 its joins", y.count(1), 4);
        FittingRings z = new FittingRings();
        z.image();
        z.point(0, 1);
        due("43 back to none", z.back(), 0);
        due("43 no point", z.told(0, 0), BAD);
        due("43 the first one again", z.point(2, 2), 0);
    }

    private static void promise44() {
        int[] counts = {6, 5, 8, 5};
        int[] full = {40, 0, 160, 79};
        for (int what = 0; what < 4; what++) {
            int w = what;
            keeps("44 what " + w, BUSY, counts[w], x -> x.count(w));
            keeps("44 what " + w + ", filled", FILLED, full[w], x -> x.count(w));
            keeps("44 what " + w + ", of none", BARE, 0, x -> x.count(w));
        }
        refuses("44 BAD", BUSY, BAD, (x, v) -> x.count(v), beyond(0, 3));
        FittingRings y = plain(40);
        y.mesh(FORTY, 1);
        due("44 as many twos as can be", y.count(1), 780);
        y = rows(3, 31, 0, 5);
        y.prove(0, 0, 0, 2, FORTY >> 1);
        due("44 as many nodes as can be", y.count(3), 199);
    }
}
