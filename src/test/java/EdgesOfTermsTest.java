/** The boundary cases of the section "Terms", a test for each sentence that names one. */
public final class EdgesOfTermsTest extends EdgeBench {
    public static void main(String[] args) {
        quotientsAreCutTowardsNought();
        refusalsAreLongsWhereLongsAreAnswered();
        ofSeveralReasonsTheFirstStands();
        whatIsAskedInThoughtChangesNothing();
        whatChangesChangesNothingElse();
        pointsAreFortyAtMost();
        figuresAreOfTwoDigits();
        aPointComesJoinedToNone();
        aSetHasNoBitBeyondThePoints();
        weights();
        noneFitsItself();
        ringsOfOneAndOfNone();
        measuresOfNoneAndOfAll();
        aTurnOfTwo();
        ordersOfLikeOnes();
        depthOfNoneOneAndAll();
        classesOfNoneOneAndAll();
        takenOfNoneOneAndAll();
        rulesOfNoneAndOfOne();
        leftWhereItIsJustEnough();
        shrunkWhereItIsJustMore();
        searchedSetsHaveSixteenPoints();
        grownOfNoneOneAndAll();
        bettered();
        leavesWhereItIsJustEnough();
        nodesAreTwoHundredAtMost();
        openOrMuchWhicheverIsFirst();
        theTapeHas160Bytes();
        tokensAreAsLongAsCanBe();
        bytesThatBeginNoToken();
        numbersOfTwoDigits();
        pointsThatThereAreThen();
        unlikeAndGreaterOnes();
        theWordPointIfThereAreForty();
        textsThatEndTooEarly();
        withAFaultNothingComesOfIt();
        drawsAreInts();
        sheetsAndHandsAtFirst();
        rowsOfNoneToSixty();
        aHandKeepsAPointAsItWas();
        whatAnImageKeeps();
        end();
    }

    // ---- "All numbers are whole ..."

    private static void quotientsAreCutTowardsNought() {
        int[] figures = {0, 1, 2, 3, 98, 99};
        int[] halves = {0, 0, 1, 1, 49, 49};
        FittingRings x = new FittingRings();
        for (int i = 0; i < figures.length; i++) {
            x.point(4, figures[i]);
            due("half of " + figures[i], x.told(i, 2), halves[i]);
        }
    }

    private static void refusalsAreLongsWhereLongsAreAnswered() {
        FittingRings x = plain(40);
        long bad = -2L, state = -3L, much = -5L, nothing = -11L, place = -12L, kind = -13L;
        due("near as a long", x.near(2, 0, 0), bad);
        due("classes as a long", x.classes(2, 0, 0), bad);
        due("classes, PLACE as a long", x.classes(0, 0, 0), place);
        due("taken as a long", x.taken(2, 0), bad);
        due("left as a long", x.left(2, 0, 0), bad);
        due("core as a long", x.core(2, 0, 0), bad);
        due("greatest as a long", x.greatest(2, 0, 0), bad);
        due("greatest, MUCH as a long", x.greatest(0, 0, FORTY), much);
        due("grown as a long", x.grown(2, 0, 0), bad);
        due("grown, MUCH as a long", x.grown(0, FORTY, 0), much);
        due("grown, PLACE as a long", x.grown(0, 0, 1), place);
        due("all as a long", x.all(2, 0, 0, 0), bad);
        due("all, MUCH as a long", x.all(0, 0, FORTY, 0), much);
        due("better as a long", x.better(2, 0, 0), bad);
        due("better, STATE as a long", x.better(0, 3, 3), state);
        due("mean as a long", x.mean(0, 0, 0, 0, 0), bad);
        due("handLess as a long", x.handLess(4, 0), bad);
        due("handLess, NOTHING as a long", x.handLess(0, 0), nothing);
        x.hold(0, 2, 0);
        due("handLess, KIND as a long", x.handLess(0, 0), kind);
    }

    private static void ofSeveralReasonsTheFirstStands() {
        keeps("point: BAD ahead of FULL", FILLED, BAD, x -> x.point(6, 0));
        keeps("point: BAD ahead of FULL", FILLED, BAD, x -> x.point(0, 100));
        keeps("order: BAD ahead of PLACE", BUSY, BAD, x -> x.order(2, SIX, 9));
        keeps("order: BAD ahead of PLACE", BUSY, BAD, x -> x.order(0, 64, 9));
        keeps("classes: BAD ahead of PLACE", BUSY, BAD, x -> x.classes(2, SIX, 9));
        keeps("classes: BAD ahead of PLACE", BUSY, BAD, x -> x.classes(0, 64, 9));
        keeps("greatest: BAD ahead of MUCH", FILLED, BAD, x -> x.greatest(2, 0, FORTY));
        keeps("greatest: BAD ahead of MUCH", FILLED, BAD, x -> x.greatest(0, 2, FORTY));
        keeps("greatest: BAD ahead of MUCH", FILLED, BAD, x -> x.greatest(0, 0, -1));
        keeps("grown: BAD ahead of MUCH", FILLED, BAD, x -> x.grown(2, FORTY, 999));
        keeps("grown: BAD ahead of MUCH", FILLED, BAD, x -> x.grown(0, -1, 999));
        keeps("grown: MUCH ahead of PLACE", FILLED, MUCH, x -> x.grown(0, FORTY, 999));
        keeps("all: BAD ahead of MUCH", FILLED, BAD, x -> x.all(0, 0, FORTY, 3));
        keeps("all: BAD ahead of MUCH", FILLED, BAD, x -> x.all(0, 2, FORTY, 0));
        keeps("all: BAD ahead of MUCH", FILLED, BAD, x -> x.all(0, 0, -1, 0));
        keeps("turning: BAD ahead of MUCH", FILLED, BAD, x -> x.turning(0, 0, FORTY, 2));
        keeps("turning: BAD ahead of MUCH", FILLED, BAD, x -> x.turning(0, 2, FORTY, 0));
        keeps("turning: BAD ahead of MUCH", FILLED, BAD, x -> x.turning(0, 0, -1, 0));
        keeps("fewest: BAD ahead of MUCH", FILLED, BAD, x -> x.fewest(2, FORTY));
        keeps("fewest: BAD ahead of MUCH", FILLED, BAD, x -> x.fewest(0, -1));
        keeps("better: BAD ahead of STATE", BUSY, BAD, x -> x.better(2, 9, SIX));
        keeps("better: BAD ahead of STATE", BUSY, BAD, x -> x.better(0, 9, 64));
        keeps("better: BAD ahead of STATE", BUSY, BAD, x -> x.better(0, 64, 64));
        keeps("check: BAD ahead of NOTHING", BUSY, BAD, x -> x.check(3, 5, 0, 0, 3, 15));
        keeps("check: BAD ahead of NOTHING", BUSY, BAD, x -> x.check(3, 0, 0, 0, -1, 15));
        keeps("check: BAD ahead of NOTHING", BUSY, BAD, x -> x.check(3, 0, 0, 0, 3, 64));
        keeps("writes: BAD ahead of STATE", BARE, BAD, x -> x.writes(4));
        keeps("writes: BAD ahead of FULL", FILLED, BAD, x -> x.writes(-1));
        keeps("cover: BAD ahead of NOTHING", BUSY, BAD, x -> x.cover(3, 2, 0, 0));
        keeps("cover: BAD ahead of NOTHING", BUSY, BAD, x -> x.cover(3, 0, 0, 64));
        keeps("slip: BAD ahead of NOTHING", BUSY, BAD, x -> x.slip(3, 2));
        keeps("slip: BAD ahead of PLACE", BUSY, BAD, x -> x.slip(0, 2));
        keeps("slip: NOTHING ahead of PLACE", BUSY, NOTHING, x -> x.slip(3, 0));
        keeps("slip: PLACE ahead of STATE", BUSY, PLACE, x -> x.slip(0, 0));
        keeps("feed: BAD ahead of FULL", FILLED, BAD, x -> x.feed(9, 0));
        keeps("deal: BAD ahead of FULL", FILLED, BAD, x -> x.deal(0, 41, 5));
        keeps("deal: BAD ahead of FULL", FILLED, BAD, x -> x.deal(0, 1, 11));
        keeps("handAs: BAD ahead of NOTHING", BUSY, BAD, x -> x.handAs(3, 6));
        keeps("handAs: BAD ahead of KIND", BUSY, BAD, x -> x.handAs(1, 6));
        keeps("handBound: BAD ahead of NOTHING", BUSY, BAD, x -> x.handBound(3, 2, 0, 0));
        keeps("handBound: BAD ahead of KIND", BUSY, BAD, x -> x.handBound(0, 0, 0, 64));
        keeps("sheet: BAD ahead of SIZE", BUSY, BAD, x -> x.sheet(4, 0, -1));
        keeps("sheet: BAD ahead of SIZE", BUSY, BAD, x -> x.sheet(0, 3, -1));
        keeps("sheet: BAD ahead of SIZE", BUSY, BAD, x -> x.sheet(0, -2, -1));
        keeps("cell: BAD ahead of PLACE", BUSY, BAD, x -> x.cell(4, -1, 0));
        keeps("cell: NOTHING ahead of PLACE", BUSY, NOTHING, x -> x.cell(3, -1, 0));
        keeps("read: BAD ahead of PLACE", BUSY, BAD, x -> x.read(4, -1));
        keeps("read: NOTHING ahead of PLACE", BUSY, NOTHING, x -> x.read(3, -1));
        keeps("copy: BAD ahead of NOTHING", BUSY, BAD, x -> x.copy(4, 0, 3, 0, 0));
        keeps("copy: BAD ahead of NOTHING", BUSY, BAD, x -> x.copy(3, 0, 4, 0, 0));
        keeps("copy: BAD ahead of PLACE", BUSY, BAD, x -> x.copy(0, -1, 4, -1, -1));
        keeps("copy: NOTHING ahead of KIND, PLACE", BUSY, NOTHING, x -> x.copy(3, 0, 0, 0, -1));
        keeps("copy: NOTHING ahead of KIND, PLACE", BUSY, NOTHING, x -> x.copy(0, 0, 3, 0, -1));
        keeps("copy: KIND ahead of PLACE", BUSY, KIND, x -> x.copy(0, -1, 1, 0, 1));
        keeps("copy: KIND ahead of PLACE", BUSY, KIND, x -> x.copy(0, 0, 1, 0, -1));
    }

    private static void whatIsAskedInThoughtChangesNothing() {
        keeps("told", BUSY, 14, x -> x.told(3, 2));
        keeps("near", BUSY, 11, x -> x.near(0, 2, SIX));
        keeps("measure", BUSY, 70, x -> x.measure(1, SIX));
        keeps("isRing", BUSY, 1, x -> x.isRing(0, 7));
        keeps("order", BUSY, 2, x -> x.order(0, SIX, 5));
        keeps("order, depth", BUSY, 2, x -> x.order(0, SIX, -1));
        keeps("classes", BUSY, 52, x -> x.classes(0, SIX, 0));
        keeps("taken", BUSY, 7, x -> x.taken(0, SIX));
        keeps("left", BUSY, 24, x -> x.left(0, 1, SIX));
        int[] bounds = {70, 49, 38, 38, 38};
        for (int rule = 0; rule < 5; rule++) {
            int r = rule;
            keeps("bound by rule " + r, BUSY, bounds[r], x -> x.bound(r, 0, 1, SIX));
        }
        keeps("core", BUSY, 7, x -> x.core(0, 2, SIX));
        keeps("greatest", BUSY, 24, x -> x.greatest(0, 1, SIX));
        keeps("grown", BUSY, 12, x -> x.grown(0, SIX, 1));
        keeps("all", BUSY, 1, x -> x.all(0, 0, SIX, 2));
        keeps("turning, less", BUSY, 1, x -> x.turning(0, 0, SIX, 0));
        keeps("turning, more", BUSY, NONE, x -> x.turning(0, 0, SIX, 1));
        keeps("turning by weight, less", BUSY, 40 * 2 + 3, x -> x.turning(0, 1, SIX, 0));
        keeps("turning by weight, more", BUSY, 3, x -> x.turning(0, 1, SIX, 1));
        keeps("fewest", BUSY, 3, x -> x.fewest(0, SIX));
        keeps("better", BUSY, 7, x -> x.better(0, 0, SIX));
        keeps("proof", BUSY, 2, x -> x.proof(0));
        keeps("check", BUSY, 0, x -> x.check(2, 0, 0, 0, 3, 15));
        keeps("cover", BUSY, 9, x -> x.cover(2, 0, 1, 1));
        keeps("slip", BUSY, STATE, x -> x.slip(2, 0));
        keeps("mean", BUSY, 10, x -> x.mean(1, 12, 10, 10, 0));
        keeps("handAs", BUSY, 6, x -> x.handAs(0, 1));
        keeps("handBound", BUSY, 38, x -> x.handBound(1, 0, 1, SIX));
        keeps("handLess", BUSY, Long.MIN_VALUE | 4, x -> x.handLess(2, 2));
        keeps("read", BUSY, 70000, x -> x.read(2, 0));
        keeps("count", BUSY, 5, x -> x.count(1));
    }

    private static void whatChangesChangesNothingElse() {
        changes("point", BUSY, 6, x -> x.point(0, 0), "net");
        changes("set", BUSY, 9, x -> x.set(0, 99), "net");
        changes("set to what it was", BUSY, 9, x -> x.set(0, 9));
        changes("turns", BUSY, 5, x -> x.turns(5, 0), "net");
        changes("turns to what it was", BUSY, 5, x -> x.turns(5, 5));
        changes("join", BUSY, 0, x -> x.join(5, 0, 1), "net");
        changes("join as it was", BUSY, 1, x -> x.join(0, 1, 1));
        changes("not joined as it was", BUSY, 0, x -> x.join(5, 0, 0));
        changes("mesh", BUSY, 10, x -> x.mesh(SIX, 1), "net");
        changes("mesh, none new", BUSY, 0, x -> x.mesh(7, 1));
        changes("prove", BUSY, 1, x -> x.prove(0, 0, 0, 6, SIX), "proof");
        changes("writes", BUSY, 5, x -> x.writes(3), "sheet3", "sorts");
        changes("film", BUSY, 3, x -> x.film(0, 0, SIX), "sheet0");
        changes("feed", BUSY, 9, x -> x.feed(1, 0), "tape");
        changes("text", BUSY, 1, x -> x.text(), "net", "tape");
        changes("deal", BUSY, 7, x -> x.deal(1, 1, 5), "net");
        changes("hold", BUSY, 2, x -> x.hold(1, 2, 0), "hand1");
        changes("hold nothing", BUSY, 3, x -> x.hold(2, 0, 0), "hand2");
        changes("sheet", BUSY, 1, x -> x.sheet(1, 1, 3), "sheet1");
        changes("sheet, missing", BUSY, 1, x -> x.sheet(1, -1, 3), "sheet1", "sorts");
        changes("cell", BUSY, 4, x -> x.cell(0, 0, 4), "sheet0");
        changes("copy", BUSY, 2, x -> x.copy(2, 0, 2, 1, 2), "sheet2");
        changes("copy of none", BUSY, 0, x -> x.copy(2, 0, 2, 1, 0));
        changes("back", BUSY, 5, x -> x.back(), "net");
        // what a rule tells and a text does is seen on the net of the image
        changes("image", BUSY, 6, x -> x.image(), "image", "hand1", "tape");
    }

    // ---- 1

    private static void pointsAreFortyAtMost() {
        FittingRings x = new FittingRings();
        for (int i = 0; i < 40; i++) {
            due("numbered from 0 as they come", x.point(0, 0), i);
        }
        due("40 at most", x.point(0, 0), FULL);
        keeps("40 at most, by point", FILLED, FULL, y -> y.point(0, 0));
        keeps("40 at most, by deal", FILLED, FULL, y -> y.deal(0, 1, 0));
        FittingRings z = plain(39);
        due("a 40th by a text", say(z, "point point 0"), 1);
        due("no 41st by a text", say(z, "point point 0"), -100);
        due("40 at most, by a text", z.count(0), 40);
        FittingRings t = plain(39);
        due("a 40th by deal", t.deal(0, 1, 0), 40);
    }

    private static void figuresAreOfTwoDigits() {
        FittingRings x = new FittingRings();
        due("figure 0", x.point(0, 0), 0);
        due("figure 99", x.point(0, 99), 1);
        due("figure 0 is told", x.told(0, 1), 0);
        due("figure 99 is told", x.told(1, 1), 99);
        refuses("a figure beyond, by point", BUSY, BAD, (y, v) -> y.point(0, v), beyond(0, 99));
        refuses("a figure beyond, by set", BUSY, BAD, (y, v) -> y.set(0, v), beyond(0, 99));
        due("figures 0 and 99 by a text", say(x, "point loud 0;point loud 99"), 2);
        due("99 came", x.told(3, 1), 99);
        due("no 100 by a text", say(x, "point loud 100"), -111);
    }

    private static void aPointComesJoinedToNone() {
        FittingRings x = plain(2);
        x.image();
        x.point(0, 1);
        x.point(0, 1);
        x.mesh(15, 1);
        x.back();
        due("none of its joins are left", x.count(1), 0);
        due("a point in the place of a joined one", x.point(0, 1), 2);
        due("it is joined to none", x.told(2, 3), 0);
        due("nor is another one to it", x.near(0, 0, 7), 0);
        x.back();
        say(x, "point lone 7");
        due("by a text too", x.told(2, 3), 0);
        x.mesh(7, 1);
        x.back();
        x.deal(3, 2, 0);
        due("by lot too, if none is drawn", x.count(1), 0);
    }

    private static LongCall[] callsOfSets() {
        return new LongCall[] {
            (x, w) -> x.mesh(w, 0), (x, w) -> x.measure(0, w), (x, w) -> x.isRing(0, w), (x, w) -> x.order(0, w, -1),
            (x, w) -> x.classes(0, w, -1), (x, w) -> x.taken(0, w), (x, w) -> x.left(0, 0, w), (x, w) -> x.bound(0, 0, 0, w),
            (x, w) -> x.core(0, 0, w), (x, w) -> x.greatest(0, 0, w), (x, w) -> x.grown(0, w, -1), (x, w) -> x.all(0, 0, w, 0),
            (x, w) -> x.turning(0, 0, w, 0), (x, w) -> x.fewest(0, w), (x, w) -> x.better(0, 0, w),
            (x, w) -> x.prove(0, 0, 0, 40, w), (x, w) -> x.check(0, 0, 0, 0, 40, w), (x, w) -> x.cover(0, 0, 0, w),
            (x, w) -> x.film(0, 0, w), (x, w) -> x.near(0, 0, w), (x, w) -> x.handBound(1, 0, 0, w)};
    }

    private static void aSetHasNoBitBeyondThePoints() {
        LongCall[] calls = callsOfSets();
        for (int i = 0; i < calls.length; i++) {
            refusesLong("a bit beyond six points, call " + i, BUSY, BAD, calls[i], noSets(6));
            refusesLong("a bit beyond forty points, call " + i, FILLED, BAD, calls[i], noSets(40));
            refusesLong("a bit beyond none, call " + i, BARE, BAD, calls[i], noSets(0));
        }
        // joined to none: what the set of all, the set of the last and the set of none answer
        long[][] wants = {
            {0, 0, 0}, {40, 1, 0}, {0, 1, 1}, {0, 0, 0}, {1, 1, 0}, {1L << 39, 1L << 39, 0}, {0, 0, 0}, {40, 1, 0},
            {FORTY, 1L << 39, 0}, {MUCH, 1L << 39, 0}, {MUCH, 1, 1}, {MUCH, 1L << 39, 0}, {MUCH, NONE, NONE}, {MUCH, 1, 0},
            {1, 1L << 39, 0}, {1, 1, 1}, {1, 0, 0}, {-139, -139, 0}, {1, 1, 0}, {0, 0, 0}, {1, 1, 0}};
        for (int i = 0; i < calls.length; i++) {
            due("the set of all forty, call " + i, calls[i].on(FILLED.make(), FORTY), wants[i][0]);
            due("the set of the last one, call " + i, calls[i].on(FILLED.make(), 1L << 39), wants[i][1]);
            due("the set of none, call " + i, calls[i].on(FILLED.make(), 0), wants[i][2]);
        }
        keeps("a ring with a bit beyond is no ring of W", BUSY, STATE, x -> x.better(0, 64, SIX));
    }

    private static void weights() {
        FittingRings x = plain(5);
        x.turns(0, 2);
        x.set(0, 3);
        int[] shy = {3, 2, 1, 0, 0};
        for (int i = 0; i < 5; i++) {
            due("a SHY one of 3, joined to " + i, x.told(0, 2), shy[i]);
            x.join(0, i + 1 < 5 ? i + 1 : 1, 1);
        }
        FittingRings y = plain(6);
        y.turns(0, 4);
        y.set(0, 5);
        int[] meek = {2, 2, 1, 1, 0, 0};
        for (int i = 0; i < 6; i++) {
            due("a MEEK one of 5, joined to " + i, y.told(0, 2), meek[i]);
            y.join(0, i + 1 < 6 ? i + 1 : 1, 1);
        }
        FittingRings z = plain(3);
        z.turns(0, 5);
        z.set(0, 99);
        due("a LONE one, joined to none", z.told(0, 2), 99);
        z.join(0, 1, 1);
        due("a LONE one, joined to one", z.told(0, 2), 1);
        z.join(0, 2, 1);
        due("a LONE one, joined to two", z.told(0, 2), 1);
        z.set(0, 0);
        due("a LONE one of 0, joined", z.told(0, 2), 1);
        z.mesh(7, 0);
        due("a LONE one of 0, joined no more", z.told(0, 2), 0);
        FittingRings t = plain(40);
        t.turns(39, 3);
        due("a PROUD one of 1, joined to none", t.told(39, 2), 2);
        t.mesh(FORTY, 1);
        due("joined to 39", t.told(39, 3), 39);
        t.set(39, 0);
        due("a PROUD one of 0, joined to 39", t.told(39, 2), 39);
        t.set(39, 99);
        due("a PROUD one of 99, joined to 39", t.told(39, 2), 237);
        t.turns(39, 1);
        due("a LOUD one of 99", t.told(39, 2), 198);
        t.turns(39, 2);
        due("a SHY one of 99, joined to 39", t.told(39, 2), 60);
        t.turns(39, 4);
        due("a MEEK one of 99, joined to 39", t.told(39, 2), 30);
        t.set(39, 39);
        due("a MEEK one of 39, joined to 39", t.told(39, 2), 0);
    }

    private static void noneFitsItself() {
        FittingRings x = plain(40);
        due("by side 1, the first", x.near(1, 0, 1), 0);
        due("by side 1, the last", x.near(1, 39, 1L << 39), 0);
        due("by side 1, of all", x.near(1, 39, FORTY), FORTY >> 1);
        x.mesh(FORTY, 1);
        due("by side 0, the first", x.near(0, 0, 1), 0);
        due("by side 0, the last", x.near(0, 39, 1L << 39), 0);
        due("by side 0, of all", x.near(0, 39, FORTY), FORTY >> 1);
        due("one is not joined to itself by a mesh", x.mesh(1L << 39, 1), 0);
    }

    private static void ringsOfOneAndOfNone() {
        FittingRings x = plain(40);
        for (int side = 0; side < 2; side++) {
            due("of none", x.isRing(side, 0), 1);
            due("of the first", x.isRing(side, 1), 1);
            due("of the last", x.isRing(side, 1L << 39), 1);
            due("of two", x.isRing(side, 1 | 1L << 39), side);
            due("of all", x.isRing(side, FORTY), side);
        }
        x.join(38, 39, 1);
        due("all but for one two", x.isRing(1, FORTY), 0);
    }

    private static void measuresOfNoneAndOfAll() {
        FittingRings x = new FittingRings();
        due("of none, how many", x.measure(0, 0), 0);
        due("of none, weights", x.measure(1, 0), 0);
        for (int i = 0; i < 40; i++) {
            x.point(3, 99);
        }
        x.mesh(FORTY, 1);
        due("of all, how many", x.measure(0, FORTY), 40);
        due("of all, weights as great as can be", x.measure(1, FORTY), 40 * 237);
        for (int rule = 0; rule < 5; rule++) {
            due("the bound of all that fit, by rule " + rule, x.bound(rule, 0, 1, FORTY), 40 * 237);
        }
        due("just that can be proved", x.prove(0, 0, 1, 9480, FORTY), 1);
        due("less can't be", x.prove(1, 0, 1, 9479, FORTY), NONE);
    }

    private static void aTurnOfTwo() {
        FittingRings x = plain(40);
        long lastTwo = 3L << 38;
        due("they are joined, if they aren't", x.turning(0, 0, lastTwo, 1), 40 * 38 + 39);
        due("not in truth", x.count(1), 0);
        x.join(39, 38, 1);
        due("else not", x.turning(0, 0, lastTwo, 0), 40 * 38 + 39);
        due("not in truth", x.count(1), 1);
        due("of two of a text", say(x, "flip 38 39"), 1);
        due("they are joined no more", x.count(1), 0);
        due("and again", say(x, "flip 38 39"), 1);
        due("they are joined", x.count(1), 1);
    }

    // ---- 2

    private static void ordersOfLikeOnes() {
        FittingRings x = plain(40);
        for (int side = 0; side < 2; side++) {
            due("of like ones the least comes first", x.order(side, FORTY, 0), 0);
            due("the greatest comes last", x.order(side, FORTY, 39), 39);
            due("there is no place behind", x.order(side, FORTY, 40), PLACE);
            due("of one", x.order(side, 1L << 39, 0), 39);
            due("of none", x.order(side, 0, 0), PLACE);
        }
        // 0 fits fewest; then all that are left are alike
        FittingRings y = plain(4);
        y.mesh(14, 1);
        y.join(0, 3, 1);
        int[] order = {0, 1, 2, 3};
        int[] ofOthers = {0, 3, 1, 2};
        for (int k = 0; k < 4; k++) {
            due("of what is left", y.order(0, 15, k), order[k]);
        }
        y.join(1, 3, 0);
        y.join(2, 3, 0);
        y.join(0, 3, 0);
        for (int k = 0; k < 4; k++) {
            due("joined to none", y.order(0, 15, k), ofOthers[k]);
        }
    }

    private static void depthOfNoneOneAndAll() {
        FittingRings x = plain(40);
        for (int side = 0; side < 2; side++) {
            due("0, if S is empty", x.order(side, 0, -1), 0);
            due("0 of one", x.order(side, 1L << 39, -1), 0);
            due("of all", x.order(side, FORTY, -1), side == 0 ? 0 : 39);
        }
        due("0, if S is empty, after a greater one", x.order(1, 0, -1), 0);
        due("1 of two, after a greater one", x.order(1, 3, -1), 1);
        due("of no points", new FittingRings().order(0, 0, -1), 0);
    }

    private static void classesOfNoneOneAndAll() {
        FittingRings x = plain(40);
        for (int side = 0; side < 2; side++) {
            due("none, if S is empty", x.classes(side, 0, -1), 0);
            due("and no first", x.classes(side, 0, 0), PLACE);
            due("one of one", x.classes(side, 1L << 39, -1), 1);
            due("which", x.classes(side, 1L << 39, 0), 1L << 39);
        }
        due("one, where none fit", x.classes(0, FORTY, -1), 1);
        due("all are of it", x.classes(0, FORTY, 0), FORTY);
        due("there is no second", x.classes(0, FORTY, 1), PLACE);
        due("forty, where all fit", x.classes(1, FORTY, -1), 40);
        due("the last in order comes first", x.classes(1, FORTY, 0), 1L << 39);
        due("the first comes last", x.classes(1, FORTY, 39), 1);
        due("there is no 41st", x.classes(1, FORTY, 40), PLACE);
    }

    private static void takenOfNoneOneAndAll() {
        FittingRings x = plain(40);
        for (int side = 0; side < 2; side++) {
            due("of none", x.taken(side, 0), 0);
            due("of one", x.taken(side, 1L << 39), 1L << 39);
        }
        due("where none fit", x.taken(0, FORTY), 1L << 39);
        due("where all fit", x.taken(1, FORTY), FORTY);
    }

    private static void rulesOfNoneAndOfOne() {
        FittingRings x = plain(40);
        x.set(39, 7);
        for (int rule = 0; rule < 5; rule++) {
            for (int side = 0; side < 2; side++) {
                due("S empty: 0, by number, rule " + rule, x.bound(rule, side, 0, 0), 0);
                due("S empty: 0, by weight, rule " + rule, x.bound(rule, side, 1, 0), 0);
                due("of one, by number, rule " + rule, x.bound(rule, side, 0, 1L << 39), 1);
                due("of one, by weight, rule " + rule, x.bound(rule, side, 1, 1L << 39), 7);
            }
        }
        int[] whereNoneFit = {40, 1, 1, 1, 1};
        for (int rule = 0; rule < 5; rule++) {
            due("where none fit, rule " + rule, x.bound(rule, 0, 0, FORTY), whereNoneFit[rule]);
            due("where all fit, rule " + rule, x.bound(rule, 1, 0, FORTY), 40);
        }
        x.set(39, 0);
        for (int rule = 0; rule < 5; rule++) {
            due("of one that weighs nothing, rule " + rule, x.bound(rule, 0, 1, 1L << 39), 0);
        }
    }

    private static void leftWhereItIsJustEnough() {
        // a round of four: two are taken, each fits two
        FittingRings x = rows(2, 2, 0, 0);
        due("those that fit as many as are taken stay", x.left(0, 0, 15), 15);
        x.join(0, 2, 0);
        due("those that fit one fewer go, then the others too", x.left(0, 0, 15), 0);
        FittingRings y = plain(2);
        y.set(0, 5);
        y.set(1, 5);
        due("those that weigh as much as what is taken go", y.left(0, 1, 3), 0);
        y.set(0, 6);
        due("one that weighs one more stays; what is taken stays that of S", y.left(0, 1, 3), 1);
        due("of none", y.left(0, 0, 0), 0);
        due("of none by weight", y.left(0, 1, 0), 0);
        due("of one", y.left(0, 0, 1), 0);
        due("of one by weight", y.left(0, 1, 1), 0);
        // its weight and those of all that fit it, together: 0 and 3 against 1 and 2, which are taken
        FittingRings z = plain(4);
        z.join(1, 2, 1);
        z.join(0, 3, 1);
        z.set(1, 2);
        z.set(2, 3);
        z.set(3, 3);
        due("together, one less than what is taken", z.left(0, 1, 15), 0);
        z.set(0, 2);
        due("together, as much", z.left(0, 1, 15), 0);
        z.set(0, 3);
        due("together, one more", z.left(0, 1, 15), 0b1001);
    }

    private static void shrunkWhereItIsJustMore() {
        FittingRings y = plain(2);
        y.set(0, 5);
        y.set(1, 5);
        due("what is taken, if nothing is left", y.bound(3, 0, 1, 3), 5);
        y.set(0, 6);
        due("what is left, if that is more", y.bound(3, 0, 1, 3), 6);
        y.set(0, 4);
        due("what is taken, if that is more", y.bound(3, 0, 1, 3), 5);
        FittingRings x = rows(2, 2, 0, 0);
        due("as much", x.bound(3, 0, 0, 15), 2);
    }

    // ---- 3

    private static void searchedSetsHaveSixteenPoints() {
        FittingRings x = plain(40);
        long first = (1L << 16) - 1;
        long last = first << 24;
        long apart = 0x55555554L | 1L << 39;
        due("sixteen of them", Long.bitCount(apart), 16);
        long[] sets = {first, last, apart};
        for (long w : sets) {
            due("greatest of sixteen", x.greatest(1, 0, w), w);
            due("grown of sixteen", x.grown(0, w, -1), 16);
            due("all of sixteen", x.all(1, 1, w, 0), w);
            due("turning of sixteen", x.turning(1, 0, w, 1), NONE);
            due("turning of sixteen, less", x.turning(1, 0, w, 0), 40 * leastOf(w) + leastOf(w & (w - 1)));
        }
        long[] greater = {first | 1L << 16, last | 1L << 23, apart | 1, FORTY};
        for (long w : greater) {
            for (int side = 0; side < 2; side++) {
                int s = side;
                keeps("greatest: MUCH", FILLED, MUCH, y -> y.greatest(s, 0, w));
                keeps("grown: MUCH", FILLED, MUCH, y -> y.grown(s, w, -1));
                keeps("all: MUCH", FILLED, MUCH, y -> y.all(s, 1, w, 2));
                keeps("turning: MUCH", FILLED, MUCH, y -> y.turning(s, 0, w, 1));
            }
        }
    }

    private static int leastOf(long w) {
        return Long.numberOfTrailingZeros(w);
    }

    private static void grownOfNoneOneAndAll() {
        FittingRings x = plain(16);
        for (int side = 0; side < 2; side++) {
            due("W empty: the empty ring", x.grown(side, 0, 0), 0);
            due("W empty: that alone", x.grown(side, 0, -1), 1);
            due("W empty: no other", x.grown(side, 0, 1), PLACE);
            due("W empty: it is the greatest", x.greatest(side, 0, 0), 0);
            due("W empty: of all there is one", x.all(side, 1, 0, 2), 1);
            due("of one: not the empty one", x.grown(side, 1L << 15, 0), 1L << 15);
            due("of one: that alone", x.grown(side, 1L << 15, -1), 1);
        }
        for (int k = 0; k < 16; k++) {
            due("numbered as they are as numbers", x.grown(0, 65535, k), 1L << k);
        }
        due("where all fit there is one", x.grown(1, 65535, -1), 1);
        due("which has all", x.grown(1, 65535, 0), 65535);
        due("of like ones the least as a number", x.greatest(0, 0, 65535), 1);
        due("of like ones of another set", x.greatest(0, 0, 65532), 4);
        x.set(15, 2);
        due("by weight one is greater", x.greatest(0, 1, 65535), 1L << 15);
        // pairs: 2 to the power of 8 of them
        for (int i = 0; i < 16; i += 2) {
            x.join(i, i + 1, 1);
        }
        due("of pairs, one of each", x.grown(1, 65535, -1), 256);
        due("the first", x.grown(1, 65535, 0), 0x5555);
        due("the second", x.grown(1, 65535, 1), 0x5556);
        due("the last", x.grown(1, 65535, 255), 0xAAAA);
        due("none behind the last", x.grown(1, 65535, 256), PLACE);
    }

    private static void bettered() {
        FittingRings x = plain(40);
        due("none of none", x.better(0, 0, 0), 0);
        due("the least point comes", x.better(0, 0, FORTY), 1);
        due("the least point of W", x.better(0, 0, 3L << 38), 1L << 38);
        due("all come, where all fit", x.better(1, 0, FORTY), FORTY);
        due("none is left to come", x.better(1, FORTY, FORTY), FORTY);
        due("a ring that is all of W", x.better(1, 5, 5), 5);
        x.join(38, 39, 1);
        due("the last two for one", x.better(0, 1, FORTY), 3L << 38);
        due("two of W alone", x.better(0, 1, FORTY >> 1), 1);
        FittingRings z = plain(3);
        z.join(0, 1, 1);
        due("the first two for one", z.better(0, 4, 7), 3);
        // again and again: 0 goes for 1, 2, then 3 comes
        FittingRings y = plain(4);
        y.mesh(14, 1);
        due("again and again", y.better(0, 1, 15), 14);
    }

    // ---- 4

    private static void leavesWhereItIsJustEnough() {
        FittingRings x = plain(40);
        due("a leaf, if together no more than k", x.prove(0, 0, 0, 40, FORTY), 1);
        due("it is told as -1", x.proof(0), -1);
        due("one more than k: a branch", x.prove(0, 0, 0, 39, FORTY), 3);
        due("at the point that is last in order", x.proof(0), 39);
        due("those that fit it", x.proof(1), -1);
        due("those without it", x.proof(2), -1);
        due("there is no place behind", x.proof(3), PLACE);
        due("k 1", x.prove(0, 0, 0, 1, FORTY), 79);
        due("open at the set of none", x.prove(0, 0, 0, 0, FORTY), NONE);
        due("open at once", x.prove(0, 0, 0, 0, 1), NONE);
        due("what was proved stays", x.count(3), 79);
        due("W empty: a leaf", x.prove(0, 0, 0, 0, 0), 1);
        x.set(39, 0);
        due("one that weighs nothing: a leaf", x.prove(0, 0, 1, 0, 1L << 39), 1);
    }

    private static void nodesAreTwoHundredAtMost() {
        // how many nodes there are is always odd; each point that is joined to none makes two more
        FittingRings x = rows(3, 31, 0, 5);
        due("199 nodes", x.prove(0, 0, 0, 2, FORTY >> 1), 199);
        due("the 199th", x.proof(198), -1);
        due("no 200th", x.proof(199), PLACE);
        due("all are counted", x.count(3), 199);
        x.point(0, 1);
        due("201 nodes", x.prove(0, 0, 0, 2, FORTY), MUCH);
        due("what was proved stays", x.count(3), 199);
        due("its last node too", x.proof(198), -1);
        due("its first too", x.proof(0), 33);
        Maker wide = () -> rows(3, 31, 0, 6);
        keeps("201 nodes", wide, MUCH, y -> y.prove(0, 0, 0, 2, FORTY));
        due("far too many", rows(20, 20, 0, 0).prove(0, 0, 0, 2, FORTY), MUCH);
    }

    private static void openOrMuchWhicheverIsFirst() {
        due("the 200th is open", rows(7, 16, 3, 0).prove(0, 0, 0, 2, (1L << 26) - 1), NONE);
        due("the 201st would be open", rows(7, 17, 4, 0).prove(0, 0, 0, 2, (1L << 28) - 1), MUCH);
        due("the 202nd would be open", rows(7, 18, 5, 0).prove(0, 0, 0, 2, (1L << 30) - 1), MUCH);
        due("the 198th is open", rows(5, 28, 5, 0).prove(0, 0, 0, 3, (1L << 38) - 1), NONE);
    }

    // ---- 5

    private static void theTapeHas160Bytes() {
        FittingRings x = plain(2);
        for (int i = 1; i <= 20; i++) {
            due("eight more", x.feed(8, 0x6a6f696e30203120L), 8 * i);
        }
        due("160 at most", x.feed(1, 0x6a00000000000000L), FULL);
        due("160 there are", x.count(2), 160);
        keeps("160 at most", FILLED, FULL, y -> y.feed(1, 0));
        keeps("160 at most, for eight", FILLED, FULL, y -> y.feed(8, 0));
        FittingRings y = plain(2);
        StringBuilder b = new StringBuilder();
        for (int i = 0; i < 22; i++) {
            b.append("cut0 1;");
        }
        write(y, b + "cut0 1");
        due("a text of 160 bytes", y.count(2), 160);
        due("as many statements as can be", y.text(), 23);
        due("a fault in the last byte", say(y, b + "cut0 2"), -259);
        due("it ends too early at 160", say(y, b + "cut 0 "), -260);
        due("a tape is empty then", y.count(2), 0);
    }

    private static void tokensAreAsLongAsCanBe() {
        textsAnswer(3, new String[] {"join0 1", "join 0 1", " join 0 1 ", "join  0  1", "point lone7", "point lone07;join3 0",
            "join0 1;join1 2", "join0 1 ;join1 2", "join0 1; join1 2", "  join0   1  ;  join1  2  "},
            new int[] {1, 1, 1, 1, 1, 2, 2, 2, 2, 2});
        textsAnswer(3, new String[] {"jo in 0 1", "joinjoin 0 1", "pointlone 7", "point lonelone 7", "join 01", "join 0 1join 1 2",
            "join 012", "join 0 1 2", "join 0;1", "all0 1ring1 2"},
            new int[] {-100, -100, -100, -106, -107, -108, -105, -109, -106, -106});
    }

    private static void bytesThatBeginNoToken() {
        // behind a word, a number: a byte that is of it makes it another one, whose fault is at its own first byte
        int[] wrongBytes = {0, 9, 10, 31, 33, '/', ':', '<', '@', 'A', 'Z', '[', '`', '{', 127, 128, 160, 255};
        for (int wrongByte : wrongBytes) {
            String c = String.valueOf((char) wrongByte);
            due("behind a word, byte " + wrongByte, say(plain(3), "join" + c + "0 1"), -104);
            due("behind a number, byte " + wrongByte, say(plain(3), "join 0" + c + "1"), -106);
            due("behind a statement, byte " + wrongByte, say(plain(3), "join 0 1" + c), -108);
            due("at first, byte " + wrongByte, say(plain(3), c + "join 0 1"), -100);
        }
        due("byte a is of a word", say(plain(3), "joina0 1"), -100);
        due("byte z is of a word", say(plain(3), "joinz0 1"), -100);
        due("byte 0 is of a number", say(plain(3), "join 00 1"), 1);
        due("byte 9 is of a number", say(plain(3), "join 09 1"), -105);
        due("byte 32 stands between", say(plain(3), "join 0 1"), 1);
    }

    private static void numbersOfTwoDigits() {
        textsAnswer(12, new String[] {"point shy 0", "point shy 00", "point shy 9", "point shy 09", "point shy 10", "point shy 99",
            "join 00 01", "join 10 11", "all 0 09", "all 00 11"},
            new int[] {1, 1, 1, 1, 1, 1, 1, 1, 1, 1});
        textsAnswer(12, new String[] {"point shy 000", "point shy 100", "point shy 999", "point shy 4294967296", "join 000 1",
            "join 0 001", "point shy a", "point shy ab", "join a 1", "join 0 a", "all 0 011", "join 4294967296 1", "join 0 18446744073709551617"},
            new int[] {-110, -110, -110, -110, -105, -107, -110, -110, -105, -107, -106, -105, -107});
    }

    private static void pointsThatThereAreThen() {
        String[] verbs = {"join", "cut", "all", "ring", "flip"};
        for (String verb : verbs) {
            int at = verb.length() + 1;
            due(verb + ", the last one", say(plain(3), verb + " 0 2"), 1);
            due(verb + ", one too far", say(plain(3), verb + " 0 3"), -100 - at - 2);
            due(verb + ", a first one too far", say(plain(3), verb + " 3 4"), -100 - at);
            due(verb + ", of none", say(new FittingRings(), verb + " 0 1"), -100 - at);
            due(verb + ", of one", say(plain(1), verb + " 0 1"), -100 - at - 2);
            due(verb + ", of forty", say(plain(40), verb + " 38 39"), 1);
            due(verb + ", a 41st", say(plain(40), verb + " 38 40"), -100 - at - 3);
            due(verb + ", 99", say(plain(40), verb + " 99 0"), -100 - at);
            due(verb + ", one of the same text", say(plain(2), "point shy 1;" + verb + " 1 2"), 2);
            due(verb + ", one that comes later", say(plain(2), verb + " 1 2;point shy 1"), -100 - at - 2);
        }
    }

    private static void unlikeAndGreaterOnes() {
        textsAnswer(3, new String[] {"join 1 0", "join 0 1", "join 1 1", "cut 1 0", "cut 0 1", "cut 1 1", "join 0 0", "cut 2 2"},
            new int[] {1, 1, -107, 1, 1, -106, -107, -106});
        textsAnswer(3, new String[] {"all 1 2", "all 1 1", "all 1 0", "ring 1 2", "ring 1 1", "ring 1 0", "flip 1 2", "flip 1 1",
            "flip 1 0", "all 2 2", "ring 2 2", "flip 2 2", "all 2 3"},
            new int[] {1, -106, -106, 1, -107, -107, 1, -107, -107, -106, -107, -107, -106});
        String[] verbs = {"join", "all", "ring", "flip"};
        int[] ofFour = {1, 6, 4, 6};
        for (int i = 0; i < verbs.length; i++) {
            FittingRings four = plain(4);
            due(verbs[i] + " of four", say(four, verbs[i] + " 0 3"), 1);
            due(verbs[i] + " of four, joined", four.count(1), ofFour[i]);
            four.mesh(15, 1);
            due("cut of four", say(four, "cut 0 3"), 1);
            due("cut of four, joined", four.count(1), 5);
            due("cut of four, the last one first", say(four, "cut 3 1"), 1);
            due("cut of four, joined then", four.count(1), 4);
        }
        FittingRings x = plain(40);
        due("all of forty", say(x, "all 0 39"), 1);
        due("each two", x.count(1), 780);
        due("flip of forty", say(x, "flip 0 39"), 1);
        due("each two", x.count(1), 0);
        due("ring of forty", say(x, "ring 0 39"), 1);
        due("each and the next one, the last and the first", x.count(1), 40);
        due("the last and the first", x.near(0, 39, FORTY), 1 | 1L << 38);
        FittingRings y = plain(3);
        due("ring of two", say(y, "ring 1 2"), 1);
        due("it is one join", y.count(1), 1);
        due("ring of three", say(y, "ring 0 2"), 1);
        due("they are three", y.count(1), 3);
    }

    private static void theWordPointIfThereAreForty() {
        due("a 40th", say(plain(39), "point point 1"), 1);
        due("a 41st", say(plain(40), "point point 1"), -100);
        due("a 41st, whatever stands behind", say(plain(40), "point ?"), -100);
        due("a 41st, at the end", say(plain(40), "  point"), -102);
        due("a 41st of the same text", say(plain(39), "point point 1;point point 1"), -114);
        due("another word", say(plain(40), "points"), -100);
        due("a join can be", say(plain(40), "join 0 1"), 1);
    }

    private static void textsThatEndTooEarly() {
        textsAnswer(2, new String[] {"", " ", "  ", "point", "point ", "point shy", "point shy ", "point shy 1;", "point shy 1 ; ",
            "join", "join ", "join 0", "join 0 ", "all 0", "flip 0 1;"},
            new int[] {-100, -101, -102, -105, -106, -109, -110, -112, -114, -104, -105, -106, -107, -105, -109});
        textsAnswer(2, new String[] {";", " ;", ";join 0 1", "join 0 1;;", "join 0 1;;join 0 1", "join;", "join 0;", "point;", "point shy;"},
            new int[] {-100, -101, -100, -109, -109, -104, -106, -105, -109});
    }

    private static void withAFaultNothingComesOfIt() {
        Maker atRest = () -> {
            FittingRings y = BUSY.make();
            y.text();
            return y;
        };
        String[] texts = {"point shy 1;join 0 6;join 0 7", "cut 0 1;cut 0 0", "all 0 5;?", "ring 0 5;", "flip 0 5 0", "point lone 1;point lone 100"};
        int[] faults = {28, 14, 8, 9, 9, 24};
        for (int i = 0; i < texts.length; i++) {
            String text = texts[i];
            keeps("nothing of '" + text + "'", atRest, -100 - faults[i], y -> say(y, text));
        }
        keeps("nothing of no text", atRest, -100, y -> y.text());
    }

    private static void textsAnswer(int points, String[] texts, int[] answers) {
        for (int i = 0; i < texts.length; i++) {
            due("'" + texts[i] + "' of " + points, say(plain(points), texts[i]), answers[i]);
        }
    }

    // ---- 6

    private static void drawsAreInts() {
        int[] seeds = {0, 1, -1, MIN, MAX, 0x40000000, -123456789};
        for (int seed : seeds) {
            FittingRings x = new FittingRings();
            due("three by " + seed, x.deal(seed, 3, 5), 3);
            // without ints: z as a number from 0 to 2 to the power of 32, less 1
            long z = seed & 0xFFFFFFFFL;
            for (int p = 0; p < 3; p++) {
                z = nextOf(z);
                due("kind by " + seed, x.told(p, 0), (z / 256) % 6);
                z = nextOf(z);
                due("figure by " + seed, x.told(p, 1), (z / 256) % 100);
                for (int q = 0; q < p; q++) {
                    z = nextOf(z);
                    due("joined by " + seed, x.near(0, p, 1L << q), (z / 256) % 10 < 5 ? 1L << q : 0);
                }
            }
        }
    }

    private static long nextOf(long z) {
        return (z * 1103515245L + 12345L) & 0xFFFFFFFFL;
    }

    private static void sheetsAndHandsAtFirst() {
        for (int i = 0; i < 4; i++) {
            int s = i;
            keeps("a sheet is missing at first", BARE, NOTHING, x -> x.read(s, 0));
            keeps("a hand holds nothing at first", BARE, NOTHING, x -> x.handAs(s, 0));
            due("it held nothing", new FittingRings().hold(s, 0, 0), 0);
        }
        refuses("no other sheets", BARE, BAD, (x, v) -> x.read(v, 0), beyond(0, 3));
        refuses("no other hands", BARE, BAD, (x, v) -> x.handLess(v, 0), beyond(0, 3));
    }

    private static void rowsOfNoneToSixty() {
        FittingRings x = new FittingRings();
        for (int sort = 0; sort < 3; sort++) {
            due("a row of none", x.sheet(sort, sort, 0), 1);
            due("it has no place", x.read(sort, 0), PLACE);
            due("but isn't missing", x.copy(sort, 0, sort, 0, 0), 0);
            due("a row of one", x.sheet(sort, sort, 1), 1);
            due("it has a place", x.read(sort, 0), 0);
            due("and no more", x.read(sort, 1), PLACE);
            due("a row of sixty", x.sheet(sort, sort, 60), 1);
            due("it has sixty places", x.cell(sort, 59, 7), 7);
            due("and no more", x.cell(sort, 60, 7), PLACE);
        }
    }

    private static void aHandKeepsAPointAsItWas() {
        FittingRings x = BUSY.make();
        x.set(3, 99);
        x.turns(3, 5);
        due("with its figure as it was", x.handAs(0, 0), 6);
        due("with its kind as it was", x.handAs(0, 3), 6);
        due("not of the kind that it is now", x.handAs(0, 5), KIND);
        x.hold(3, 1, 5);
        due("back to five", x.back(), 5);
        due("also one that there is no more", x.handAs(3, 5), 3);
        keeps("it can't be held anew", BUSY, BAD, y -> y.hold(3, 1, 6));
        due("nor can it then", x.hold(3, 1, 5), BAD);
        due("it is still held", x.handAs(3, 5), 3);
    }

    private static void whatAnImageKeeps() {
        FittingRings x = new FittingRings();
        due("an image of none", x.image(), 0);
        x.deal(4, 40, 5);
        due("back to none", x.back(), 0);
        due("no joins either", x.count(1), 0);
        x.deal(4, 40, 10);
        due("an image of forty", x.image(), 40);
        x.mesh(FORTY, 0);
        x.set(39, (x.told(39, 1) + 1) % 100);
        x.turns(39, (x.told(39, 0) + 1) % 6);
        due("back to forty", x.back(), 40);
        due("all their joins", x.count(1), 780);
        FittingRings y = new FittingRings();
        y.deal(4, 40, 10);
        due("figure", x.told(39, 1), y.told(39, 1));
        due("kind", x.told(39, 0), y.told(39, 0));
        due("weights", x.measure(1, FORTY), y.measure(1, FORTY));
    }
}
