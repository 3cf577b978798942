import java.util.function.Supplier;

/** The boundary cases of promises 1 to 7: each test stands below the words that it tests. */
public final class ChangesBoundaryTest {
    private static final int BAD_ARG = TimedPair.BAD_ARG;
    private static final int FULL = TimedPair.FULL;
    private static final int NONE = TimedPair.NONE;

    public static void main(String[] args) {
        newObjectHasNoEdge();
        newObjectHasNoBound();
        newObjectHasNoUrgentLocation();
        newObjectSharesNothing();
        edgeWithWrongP();
        edgeWithWrongEnds();
        edgeWithWrongResets();
        edgeWithWrongSign();
        edgeWhenFull();
        edgeTestsItsArgumentsBeforeFull();
        edgeAnswersItsNumber();
        edgeGoesFromAndTo();
        edgeHasLeastValuesZeroAndNoGreatest();
        edgeResetsTheClocksOfItsBits();
        guardOfNoEdge();
        guardWithWrongClock();
        guardWithWrongLeast();
        guardWithWrongGreatest();
        guardTestsTheEdgeBeforeTheRest();
        guardIsOfOneEdgeAndOneClock();
        guardReplacesTheOneBefore();
        guardWithGreatestSeven();
        guardThatNoValueMeets();
        dropOfNoEdge();
        dropAnswersHowManyAreLeft();
        dropLowersTheNumbersBehind();
        dropLeavesNothingOfTheEdge();
        boundWithWrongPlace();
        boundWithWrongClock();
        boundWithWrongBound();
        boundAnswersTheOneBefore();
        boundSevenTakesTheBoundAway();
        urgentWithWrongPlace();
        urgentWithAnyOn();
        urgentAnswersWhatWasBefore();
        edgesCountsFromZeroToTwelve();
        edgesCountsNoRefusedCall();
        Check.finish();
    }

    /** Promise 1: "No edge" */
    private static void newObjectHasNoEdge() {
        TimedPair x = new TimedPair();
        Call.edges().due("new", x, 0);
        for (int e = -1; e <= 12; e++) {
            Call.usable(e).due("new", x, NONE);
            Call.firstUse(e).due("new", x, NONE);
            Call.guard(e, 0, 0, 7).due("new", x, NONE);
            Call.drop(e).due("new", x, NONE);
        }
        Call.pairs().due("new", x, 1);
        Call.edge(0, 0, 0, 0).due("new", x, 0);
    }

    /** Promise 1: "no bound" */
    private static void newObjectHasNoBound() {
        TimedPair x = new TimedPair();
        for (int place = 0; place <= 7; place++) {
            Call.bound(place, 0, 0).due("new", x, 7);
            Call.bound(place, 1, 0).due("new", x, 7);
        }
        TimedPair y = new TimedPair();
        for (int l = 1; l <= 3; l++) {
            y.edge(0, 4 * l, 0, 0);
            y.edge(1, 4 * l, 0, 0);
        }
        // Clock 1 is reset at 6, so that clock 0 is above 6 wherever clock 1 is at 1 and clock 0 at least 6.
        y.edge(0, 0, 2, 0);
        y.guard(6, 1, 6, 6);
        for (int place = 0; place <= 7; place++) {
            int e = y.edge(place / 4, 5 * (place % 4), 0, 0);
            y.guard(e, 0, 6, 7);
            y.guard(e, 1, 1, 1);
            Call.firstUse(e).due("new, above 6 in place " + place, y, 7);
            y.drop(e);
        }
    }

    /** Promise 1: "no location is urgent" */
    private static void newObjectHasNoUrgentLocation() {
        TimedPair x = new TimedPair();
        for (int place = 0; place <= 7; place++) {
            Call.urgent(place, 1).due("new", x, 0);
        }
    }

    /** Promise 1: a new object has nothing of another. */
    private static void newObjectSharesNothing() {
        TimedPair x = Sample.full();
        TimedPair y = new TimedPair();
        Call.pairs().due("another object", y, 1);
        Call.edges().due("another object", y, 0);
        Call.edge(0, 4, 0, 0).due("another object", y, 0);
        Call.bound(0, 0, 3).due("another object", y, 7);
        Call.urgent(6, 0).due("another object", y, 0);
        Sample.alike("the object before", x, Sample.full());
    }

    /** Promise 2: "p not 0 or 1 ... answers BAD_ARG" */
    private static void edgeWithWrongP() {
        for (Supplier<TimedPair> sample : Sample.ALL) {
            for (int p : Outside.of(0, 1)) {
                Call.edge(p, 4, 3, 0).refused("wrong p", sample, BAD_ARG);
            }
        }
        for (int p = 0; p <= 1; p++) {
            Call.edge(p, 4, 3, 0).due("right p", new TimedPair(), 0);
        }
    }

    /** Promise 2: "ends not 0 to 15 ... answers BAD_ARG" */
    private static void edgeWithWrongEnds() {
        for (Supplier<TimedPair> sample : Sample.ALL) {
            for (int ends : Outside.of(0, 15)) {
                Call.edge(1, ends, 3, 0).refused("wrong ends", sample, BAD_ARG);
            }
        }
        for (int ends = 0; ends <= 15; ends++) {
            Call.edge(1, ends, 3, 0).due("right ends", new TimedPair(), 0);
        }
    }

    /** Promise 2: "resets not 0 to 3 ... answers BAD_ARG" */
    private static void edgeWithWrongResets() {
        for (Supplier<TimedPair> sample : Sample.ALL) {
            for (int resets : Outside.of(0, 3)) {
                Call.edge(0, 4, resets, 0).refused("wrong resets", sample, BAD_ARG);
            }
        }
        for (int resets = 0; resets <= 3; resets++) {
            Call.edge(0, 4, resets, 0).due("right resets", new TimedPair(), 0);
        }
    }

    /** Promise 2: "sign not 0 to 4 answers BAD_ARG" */
    private static void edgeWithWrongSign() {
        for (Supplier<TimedPair> sample : Sample.ALL) {
            for (int sign : Outside.of(0, 4)) {
                Call.edge(0, 4, 0, sign).refused("wrong sign", sample, BAD_ARG);
            }
        }
        for (int sign = 0; sign <= 4; sign++) {
            Call.edge(0, 4, 0, sign).due("right sign", new TimedPair(), 0);
        }
    }

    /** Promise 2: "FULL" */
    private static void edgeWhenFull() {
        for (int ends = 0; ends <= 15; ends++) {
            Call.edge(ends & 1, ends, ends / 5, ends % 5).refused("full", Sample::full, FULL);
        }
        TimedPair x = Sample.full();
        Call.drop(0).due("one taken away", x, 11);
        Call.edge(1, 15, 3, 4).due("one taken away", x, 11);
        Call.edge(1, 15, 3, 4).due("full again", x, FULL);
    }

    /** Promise 2: "Tested in this order: ... BAD_ARG; FULL" */
    private static void edgeTestsItsArgumentsBeforeFull() {
        TimedPair x = Sample.full();
        Call.edge(0, 0, 0, 0).due("full", x, FULL);
        Call.edge(-1, 0, 0, 0).due("full", x, BAD_ARG);
        Call.edge(2, 0, 0, 0).due("full", x, BAD_ARG);
        Call.edge(0, -1, 0, 0).due("full", x, BAD_ARG);
        Call.edge(0, 16, 0, 0).due("full", x, BAD_ARG);
        Call.edge(0, 0, -1, 0).due("full", x, BAD_ARG);
        Call.edge(0, 0, 4, 0).due("full", x, BAD_ARG);
        Call.edge(0, 0, 0, -1).due("full", x, BAD_ARG);
        Call.edge(0, 0, 0, 5).due("full", x, BAD_ARG);
        Call.edge(2, 16, 4, 5).due("full", x, BAD_ARG);
        Call.edge(1, 15, 3, 4).due("full", x, FULL);
    }

    /** Promise 2: "Otherwise its number." */
    private static void edgeAnswersItsNumber() {
        TimedPair x = new TimedPair();
        for (int e = 0; e <= 11; e++) {
            Call.edge(e & 1, e, e & 3, e % 5).due("number", x, e);
            Call.edge(2, e, e & 3, e % 5).due("a refused one takes no number", x, BAD_ARG);
        }
        for (int e = 0; e <= 11; e++) {
            x.drop(0);
        }
        Call.edge(0, 0, 0, 0).due("from 0 on again", x, 0);
    }

    /** Promise 2: "from location ends & 3 to location ends / 4" */
    private static void edgeGoesFromAndTo() {
        for (int p = 0; p <= 1; p++) {
            for (int from = 0; from <= 3; from++) {
                for (int to = 0; to <= 3; to++) {
                    TimedPair x = new TimedPair();
                    int e = x.edge(p, from + 4 * to, 0, 0);
                    String run = "process " + p + " from " + from + " to " + to;
                    Call.usable(e).due(run, x, from == 0 ? 1 : 0);
                    Call.locations(p).due(run, x, from == 0 ? 1 | 1 << to : 1);
                    x.edge(p, 4 * from, 0, 0);
                    Call.usable(e).due(run, x, 1);
                    Call.locations(p).due(run, x, 1 | 1 << from | 1 << to);
                    Call.locations(1 - p).due(run, x, 1);
                }
            }
        }
    }

    /** Promise 2: "with least values 0 and no greatest ones" */
    private static void edgeHasLeastValuesZeroAndNoGreatest() {
        for (int before = 0; before < 2; before++) {
            TimedPair x = new TimedPair();
            x.edge(0, 0, 0, 0);
            for (int e = 1; e <= 11; e++) {
                x.edge(0, 0, 0, 0);
                if (before == 1) {
                    x.guard(e, 0, 6, 2);
                    x.guard(e, 1, 3, 3);
                }
            }
            // What the dropped edges had must not come back with a new one.
            for (int e = 11; e >= 1; e--) {
                x.drop(e);
            }
            x.guard(0, 0, 6, 6);
            for (int e = 1; e <= 11; e++) {
                Call.edge(0, 4, 0, 0).due("new edge", x, e);
                Call.firstUse(e).due("new edge, least values", x, 0);
                x.guard(e, 0, 6, 7);
                Call.firstUse(e).due("new edge, greatest value of clock 1", x, 6);
                x.guard(e, 0, 0, 7);
                x.guard(e, 1, 6, 7);
                Call.firstUse(e).due("new edge, greatest value of clock 0", x, 6);
            }
        }
    }

    /** Promise 2: "that resets clock c if bit c of resets is 1" */
    private static void edgeResetsTheClocksOfItsBits() {
        for (int resets = 0; resets <= 3; resets++) {
            TimedPair x = new TimedPair();
            x.edge(0, 4, resets, 0);
            x.guard(0, 0, 4, 4);
            x.urgent(1, 1);
            for (int c = 0; c <= 1; c++) {
                int value = (resets & 1 << c) != 0 ? 0 : 4;
                Call.atMost(1, c, 3).due("resets " + resets, x, value == 0 ? 1 : 0);
                Call.atMost(1, c, 4).due("resets " + resets, x, 1);
                Call.atLeast(1, c, 1).due("resets " + resets, x, value == 0 ? 0 : 1);
            }
        }
    }

    /** Promise 3: "e is not the number of an edge answers NONE" */
    private static void guardOfNoEdge() {
        for (int i = 0; i < Sample.EDGES.length; i++) {
            int edges = Sample.EDGES[i];
            for (int e : Outside.of(0, edges - 1)) {
                Call.guard(e, 0, 6, 0).refused("guard of none", Sample.ALL.get(i), NONE);
                Call.guard(e, 1, 6, 0).refused("guard of none", Sample.ALL.get(i), NONE);
            }
            TimedPair x = Sample.ALL.get(i).get();
            for (int e = 0; e < edges; e++) {
                Call.guard(e, 0, 0, 7).due("guard of one of " + edges, x, 0);
            }
            if (edges > 0) {
                x.drop(0);
                Call.guard(edges - 1, 0, 0, 7).due("a number that is no longer one", x, NONE);
            }
        }
    }

    /** Promise 3: "c not 0 or 1 ... answers BAD_ARG" */
    private static void guardWithWrongClock() {
        for (int e = 0; e < 3; e++) {
            for (int c : Outside.of(0, 1)) {
                Call.guard(e, c, 6, 0).refused("guard, wrong clock", Sample::some, BAD_ARG);
            }
            Call.guard(e, 0, 6, 0).due("guard, right clock", Sample.some(), 0);
            Call.guard(e, 1, 6, 0).due("guard, right clock", Sample.some(), 0);
        }
        for (int e = 0; e < 12; e++) {
            Call.guard(e, -1, 6, 0).refused("guard, wrong clock", Sample::full, BAD_ARG);
            Call.guard(e, 2, 6, 0).refused("guard, wrong clock", Sample::full, BAD_ARG);
        }
    }

    /** Promise 3: "least not 0 to 6 ... answers BAD_ARG" */
    private static void guardWithWrongLeast() {
        for (int c = 0; c <= 1; c++) {
            for (int least : Outside.of(0, 6)) {
                for (int e = 0; e < 3; e++) {
                    Call.guard(e, c, least, 0).refused("wrong least", Sample::some, BAD_ARG);
                }
                Call.guard(11, c, least, 7).refused("wrong least", Sample::full, BAD_ARG);
            }
            for (int least = 0; least <= 6; least++) {
                Call.guard(0, c, least, 7).due("right least", Sample.some(), 0);
            }
        }
    }

    /** Promise 3: "greatest not 0 to 7 answers BAD_ARG" */
    private static void guardWithWrongGreatest() {
        for (int c = 0; c <= 1; c++) {
            for (int greatest : Outside.of(0, 7)) {
                for (int e = 0; e < 3; e++) {
                    Call.guard(e, c, 6, greatest).refused("wrong greatest", Sample::some, BAD_ARG);
                }
                Call.guard(11, c, 0, greatest).refused("wrong greatest", Sample::full, BAD_ARG);
            }
            for (int greatest = 0; greatest <= 7; greatest++) {
                Call.guard(0, c, 0, greatest).due("right greatest", Sample.some(), 0);
            }
        }
    }

    /** Promise 3: "Tested in this order: e is not the number of an edge ...; c not 0 or 1, ..." */
    private static void guardTestsTheEdgeBeforeTheRest() {
        for (int i = 0; i < Sample.EDGES.length; i++) {
            for (int e : new int[] {-1, Sample.EDGES[i], 12}) {
                TimedPair x = Sample.ALL.get(i).get();
                Call.guard(e, 2, 0, 7).due("order", x, NONE);
                Call.guard(e, 0, 7, 7).due("order", x, NONE);
                Call.guard(e, 0, 0, 8).due("order", x, NONE);
                Call.guard(e, -1, -1, -1).due("order", x, NONE);
            }
        }
    }

    /** Promise 3: "Edge e gets for clock c these values" */
    private static void guardIsOfOneEdgeAndOneClock() {
        for (int edges = 1; edges <= 12; edges += 11) {
            for (int e = 0; e < edges; e++) {
                for (int c = 0; c <= 1; c++) {
                    TimedPair x = new TimedPair();
                    for (int i = 0; i < edges; i++) {
                        x.edge(0, 4, 0, 0);
                    }
                    Call.guard(e, c, 5, 6).due("one of " + edges, x, 0);
                    for (int i = 0; i < edges; i++) {
                        Call.firstUse(i).due("guard of " + e + " of " + edges, x, i == e ? 5 : 0);
                    }
                    x.bound(0, c, 4);
                    Call.usable(e).due("guard of clock " + c, x, 0);
                    x.bound(0, c, 7);
                    x.guard(e, 1 - c, 0, 0);
                    Call.usable(e).due("other clock at 0", x, 0);
                    if (edges < 12) {
                        x.edge(1, 0, 1 << 1 - c, 0);
                        Call.firstUse(e).due("other clock reset to 0", x, 5);
                    }
                }
            }
        }
    }

    /** Promise 3: "Edge e gets for clock c these values": the ones before are gone. */
    private static void guardReplacesTheOneBefore() {
        for (int c = 0; c <= 1; c++) {
            TimedPair x = new TimedPair();
            x.edge(0, 4, 0, 0);
            x.urgent(1, 1);
            x.guard(0, c, 3, 4);
            Call.guard(0, c, 6, 6).due("later", x, 0);
            Call.firstUse(0).due("later", x, 6);
            Call.guard(0, c, 0, 1).due("sooner", x, 0);
            Call.firstUse(0).due("sooner", x, 0);
            Call.atLeast(1, c, 1).due("sooner", x, 1);
            Call.atLeast(1, c, 2).due("sooner", x, 0);
        }
    }

    /** Promise 3: "(greatest 7: none)" */
    private static void guardWithGreatestSeven() {
        for (int c = 0; c <= 1; c++) {
            for (int greatest = 6; greatest <= 7; greatest++) {
                TimedPair x = Sample.seven(c);
                Call.guard(1, c, 6, greatest).due("greatest", x, 0);
                Call.firstUse(1).due("greatest " + greatest, x, greatest == 7 ? 7 : NONE);
            }
        }
    }

    /** Promise 3: "(Where greatest is less than least no value will do.)" */
    private static void guardThatNoValueMeets() {
        for (int c = 0; c <= 1; c++) {
            for (int least = 0; least <= 6; least++) {
                for (int greatest = 0; greatest <= 7; greatest++) {
                    TimedPair x = new TimedPair();
                    x.edge(0, 4, 0, 0);
                    String run = "from " + least + " to " + greatest;
                    Call.guard(0, c, least, greatest).due(run, x, 0);
                    Call.usable(0).due(run, x, greatest < least ? 0 : 1);
                    Call.firstUse(0).due(run, x, greatest < least ? NONE : least);
                    Call.reached(1).due(run, x, greatest < least ? 0 : 1);
                }
            }
        }
    }

    /** Promise 4: "NONE if there is none." */
    private static void dropOfNoEdge() {
        for (int i = 0; i < Sample.EDGES.length; i++) {
            for (int e : Outside.of(0, Sample.EDGES[i] - 1)) {
                Call.drop(e).refused("drop of none", Sample.ALL.get(i), NONE);
            }
        }
        TimedPair x = Sample.some();
        Call.drop(2).due("drop of the last", x, 2);
        Call.drop(2).due("a number that is no longer one", x, NONE);
    }

    /** Promise 4: "Otherwise how many are left." */
    private static void dropAnswersHowManyAreLeft() {
        for (int way = 0; way < 3; way++) {
            TimedPair x = Sample.full();
            for (int left = 11; left >= 0; left--) {
                int e = way == 0 ? 0 : way == 1 ? left : left / 2;
                Call.drop(e).due("left", x, left);
                Call.edges().due("left", x, left);
            }
            Call.drop(0).due("none left", x, NONE);
            Call.edges().due("none left", x, 0);
            Call.pairs().due("none left", x, 1);
        }
    }

    /** Promise 4: "Takes edge e away; those behind it get numbers less by one." */
    private static void dropLowersTheNumbersBehind() {
        for (int e = 0; e <= 11; e++) {
            Sample.alike("without edge " + e, dropped(e), Sample.fullWithout(e));
        }
    }

    private static TimedPair dropped(int e) {
        TimedPair x = Sample.full();
        x.drop(e);
        return x;
    }

    /** Promise 4: "Takes edge e away": the last of 12 too, though none takes its room. */
    private static void dropLeavesNothingOfTheEdge() {
        for (int e = 0; e <= 11; e++) {
            TimedPair x = new TimedPair();
            for (int i = 0; i <= 11; i++) {
                x.edge(0, i == e ? 4 : 0, 0, 0);
            }
            Call.reached(1).due("before it is taken away", x, 1);
            Call.drop(e).due("taken away", x, 11);
            Call.reached(1).due("taken away", x, 0);
            Call.usable(10).due("taken away", x, 1);
            Call.usable(11).due("taken away", x, NONE);
            Call.firstUse(11).due("taken away", x, NONE);
        }
    }

    /** Promise 5: "BAD_ARG if place is not 0 to 7" */
    private static void boundWithWrongPlace() {
        for (int place : Outside.of(0, 7)) {
            Call.bound(place, 0, 0).refused("wrong place", Sample::some, BAD_ARG);
            Call.bound(place, 1, 0).refused("wrong place", Sample::full, BAD_ARG);
        }
        for (int place = 0; place <= 7; place++) {
            Call.bound(place, 0, 0).due("right place", new TimedPair(), 7);
        }
    }

    /** Promise 5: "c not 0 or 1" */
    private static void boundWithWrongClock() {
        for (int place = 0; place <= 7; place++) {
            for (int c : Outside.of(0, 1)) {
                Call.bound(place, c, 0).refused("bound, wrong clock", Sample::some, BAD_ARG);
            }
            Call.bound(place, 0, 0).due("bound, right clock", new TimedPair(), 7);
            Call.bound(place, 1, 0).due("bound, right clock", new TimedPair(), 7);
        }
    }

    /** Promise 5: "or bound not 0 to 7" */
    private static void boundWithWrongBound() {
        for (int place = 0; place <= 7; place++) {
            for (int bound : Outside.of(0, 7)) {
                Call.bound(place, 0, bound).refused("wrong bound", Sample::some, BAD_ARG);
                Call.bound(place, 1, bound).refused("wrong bound", Sample::some, BAD_ARG);
            }
            for (int bound = 0; bound <= 7; bound++) {
                Call.bound(place, 0, bound).due("right bound", new TimedPair(), 7);
            }
        }
    }

    /** Promise 5: "Otherwise the bound before (7: none)." */
    private static void boundAnswersTheOneBefore() {
        for (int place = 0; place <= 7; place++) {
            for (int c = 0; c <= 1; c++) {
                TimedPair x = new TimedPair();
                int before = 7;
                for (int bound : new int[] {0, 6, 1, 1, 7, 5, 0, 7, 7, 3}) {
                    Call.bound(place, c, bound).due("bound before", x, before);
                    Call.bound(place, c, 8).due("a refused one in between", x, BAD_ARG);
                    before = bound;
                }
                for (int i = 0; i < 16; i++) {
                    boolean same = i == 2 * place + c;
                    Call.bound(i / 2, i % 2, 7).due("only of " + place + " and " + c, x, same ? 3 : 7);
                }
            }
        }
    }

    /** Promise 5: "or none (bound 7)" */
    private static void boundSevenTakesTheBoundAway() {
        for (int c = 0; c <= 1; c++) {
            TimedPair x = Sample.seven(c);
            for (int place = 0; place <= 4; place += 4) {
                x.bound(place, c, 6);
                Call.firstUse(1).due("bound 6", x, NONE);
                Call.bound(place, c, 7).due("bound 7", x, 6);
                Call.firstUse(1).due("bound 7", x, 7);
            }
        }
    }

    /** Promise 6: "BAD_ARG if place is not 0 to 7." */
    private static void urgentWithWrongPlace() {
        for (int place : Outside.of(0, 7)) {
            for (int on = -1; on <= 1; on++) {
                Call.urgent(place, on).refused("wrong place", Sample::some, BAD_ARG);
                Call.urgent(place, on).refused("wrong place", Sample::full, BAD_ARG);
            }
        }
        for (int place = 0; place <= 7; place++) {
            Call.urgent(place, 1).due("right place", new TimedPair(), 0);
        }
    }

    /** Promise 6: "becomes urgent (on not 0) or not" */
    private static void urgentWithAnyOn() {
        int[] others = {1, -1, 2, -2, 255, 256, 65536, 1 << 30, Integer.MAX_VALUE, Integer.MIN_VALUE};
        for (int place = 0; place <= 4; place += 4) {
            for (int on : others) {
                TimedPair x = new TimedPair();
                Call.urgent(place, on).due("on", x, 0);
                Call.atLeast(0, 0, 1).due("on " + on, x, 0);
                Call.urgent(place, 0).due("on " + on, x, 1);
                Call.atLeast(0, 0, 1).due("off", x, 1);
            }
        }
    }

    /** Promise 6: "Otherwise 1 if it was urgent before, else 0." */
    private static void urgentAnswersWhatWasBefore() {
        for (int place = 0; place <= 7; place++) {
            TimedPair x = new TimedPair();
            int before = 0;
            for (int on : new int[] {0, 1, 1, 0, 0, -1, 2, Integer.MIN_VALUE}) {
                Call.urgent(place, on).due("urgent before", x, before);
                Call.urgent(8, 1 - before).due("a refused one in between", x, BAD_ARG);
                before = on == 0 ? 0 : 1;
            }
            for (int other = 0; other <= 7; other++) {
                Call.urgent(other, 0).due("only " + place, x, other == place ? 1 : 0);
            }
        }
    }

    /** Promise 7: "The number of edges.": from none to 12 */
    private static void edgesCountsFromZeroToTwelve() {
        TimedPair x = new TimedPair();
        Call.edges().due("none", x, 0);
        for (int e = 0; e <= 11; e++) {
            x.edge(1, 9, 0, 4);
            Call.edges().due("one more", x, e + 1);
        }
        x.edge(1, 9, 0, 4);
        Call.edges().due("full", x, 12);
        for (int left = 11; left >= 0; left--) {
            x.drop(left / 2);
            Call.edges().due("one less", x, left);
        }
    }

    /** Promise 7: "The number of edges.": refused calls have added none and taken none away */
    private static void edgesCountsNoRefusedCall() {
        for (int i = 0; i < Sample.EDGES.length; i++) {
            TimedPair x = Sample.ALL.get(i).get();
            x.edge(2, 0, 0, 0);
            x.edge(0, 0, 0, 5);
            x.drop(-1);
            x.drop(12);
            x.guard(12, 0, 0, 0);
            Call.edges().due("refused", x, Sample.EDGES[i]);
        }
    }
}
