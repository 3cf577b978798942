import java.util.ArrayList;
import java.util.List;
import java.util.function.IntFunction;
import java.util.function.Supplier;

/** The boundary cases of promises 8 to 15: each test stands below the words that it tests. */
public final class AnswersBoundaryTest {
    private static final int BAD_ARG = TimedPair.BAD_ARG;
    private static final int NONE = TimedPair.NONE;

    public static void main(String[] args) {
        askingChangesNothing();
        everyChangeIsSeenAfterAsking();
        wrongPair();
        wrongClock();
        wrongValue();
        wrongPairWithAWrongClockOrValue();
        wrongArgumentsOfAPairThatIsNotReached();
        reachedAnswersOneOrZero();
        earliestIsTheLeastTime();
        earliestGoesFromZeroToTwenty();
        earliestOfNoState();
        earliestWhereClocksWereAtFractions();
        atMostMeetsItsValue();
        atMostOfAClockAboveSix();
        atMostOfNoState();
        atLeastMeetsItsValue();
        atLeastOfAClockAboveSix();
        atLeastOfNoState();
        atMostAndAtLeastMayBeOfDifferentStates();
        pairsCountsFromOneToSixteen();
        locationsOfAWrongProcess();
        locationsIsASetOfOneToFour();
        usableOfNoEdge();
        usableAnswersOneOrZero();
        usableInAJointMove();
        firstUseOfNoEdge();
        firstUseGoesFromZeroToTwenty();
        firstUseOfAnEdgeWithoutAMove();
        firstUseIsTheTimeBeforeTheMove();
        Check.finish();
    }

    /** Ahead of the calls: "The calls below change nothing." */
    private static void askingChangesNothing() {
        for (Supplier<TimedPair> sample : Sample.ALL) {
            TimedPair x = sample.get();
            for (Call call : questions()) {
                int once = call.on(x);
                call.due("asked again", x, once);
            }
            Sample.alike("asked before", x, sample.get());
        }
    }

    private static List<Call> questions() {
        List<Call> calls = new ArrayList<>();
        for (int i : new int[] {-1, 0, 1, 2, 11, 12, 15, 16}) {
            calls.addAll(List.of(Call.reached(i), Call.earliest(i), Call.atMost(i, 0, 6), Call.atLeast(i, 1, 0)));
            calls.addAll(List.of(Call.atMost(0, i, 3), Call.atLeast(0, 1, i), Call.locations(i), Call.usable(i), Call.firstUse(i)));
        }
        calls.add(Call.pairs());
        return calls;
    }

    /** Ahead of the calls: "The calls below change nothing.": nor do they hold fast what was before a change. */
    private static void everyChangeIsSeenAfterAsking() {
        Call[] changes = {
            Call.edge(0, 4, 0, 0), Call.edge(0, 8, 0, 0), Call.edge(0, 12, 0, 0), Call.edge(1, 12, 0, 0),
            Call.edge(0, 0, 1, 0), Call.guard(1, 0, 4, 5), Call.bound(4, 1, 4), Call.bound(4, 1, 3),
            Call.urgent(0, 1), Call.urgent(0, 0), Call.drop(2), Call.drop(0), Call.drop(1)
        };
        TimedPair x = new TimedPair();
        for (int made = 1; made <= changes.length; made++) {
            TimedPair y = new TimedPair();
            for (int i = 0; i < made; i++) {
                changes[i].on(y);
            }
            changes[made - 1].on(x);
            Sample.sameAnswers("asked before " + changes[made - 1].text(), x, y);
        }
        Call.earliest(1).due("what is left", x, NONE);
        Call.locations(0).due("what is left", x, 1);
        Call.pairs().due("what is left", x, 1);
    }

    /** "A pair that is not 0 to 15 answers BAD_ARG" */
    private static void wrongPair() {
        List<IntFunction<Call>> kinds = List.of(
            Call::reached, Call::earliest, pair -> Call.atMost(pair, 0, 6), pair -> Call.atLeast(pair, 1, 0));
        for (IntFunction<Call> kind : kinds) {
            for (Supplier<TimedPair> sample : Sample.ALL) {
                for (int pair : Outside.of(0, 15)) {
                    kind.apply(pair).refused("wrong pair", sample, BAD_ARG);
                }
            }
        }
        TimedPair x = everyPair();
        for (int pair = 0; pair <= 15; pair++) {
            Call.reached(pair).due("right pair", x, 1);
            Call.earliest(pair).due("right pair", x, 0);
            Call.atMost(pair, 0, 6).due("right pair", x, 1);
            Call.atLeast(pair, 1, 0).due("right pair", x, 1);
        }
    }

    /** Each process may go to each location at once. */
    private static TimedPair everyPair() {
        TimedPair x = new TimedPair();
        for (int l = 1; l <= 3; l++) {
            x.edge(0, 4 * l, 0, 0);
            x.edge(1, 4 * l, 0, 0);
        }
        return x;
    }

    /** "a clock c that is not 0 or 1 ... answers BAD_ARG" */
    private static void wrongClock() {
        for (Supplier<TimedPair> sample : Sample.ALL) {
            for (int c : Outside.of(0, 1)) {
                Call.atMost(0, c, 6).refused("wrong clock", sample, BAD_ARG);
                Call.atLeast(0, c, 0).refused("wrong clock", sample, BAD_ARG);
            }
            for (int c = 0; c <= 1; c++) {
                Call.atMost(0, c, 6).due("right clock", sample.get(), 1);
                Call.atLeast(0, c, 0).due("right clock", sample.get(), 1);
            }
        }
    }

    /** "or a value v that is not 0 to 6 answers BAD_ARG" */
    private static void wrongValue() {
        for (Supplier<TimedPair> sample : Sample.ALL) {
            for (int c = 0; c <= 1; c++) {
                for (int v : Outside.of(0, 6)) {
                    Call.atMost(0, c, v).refused("wrong value", sample, BAD_ARG);
                    Call.atLeast(0, c, v).refused("wrong value", sample, BAD_ARG);
                }
            }
        }
        TimedPair x = new TimedPair();
        for (int c = 0; c <= 1; c++) {
            for (int v = 0; v <= 6; v++) {
                Call.atMost(0, c, v).due("right value", x, 1);
                Call.atLeast(0, c, v).due("right value", x, 1);
            }
        }
    }

    /** "tested first; ... tested next": both answer BAD_ARG, so that is the answer in whichever order. */
    private static void wrongPairWithAWrongClockOrValue() {
        TimedPair x = Sample.full();
        for (int pair : new int[] {-1, 0, 15, 16}) {
            for (int c : new int[] {-1, 0, 1, 2}) {
                for (int v : new int[] {-1, 0, 6, 7}) {
                    boolean right = pair >= 0 && pair <= 15 && c >= 0 && c <= 1 && v >= 0 && v <= 6;
                    Check.due("atMost at " + pair + " " + c + " " + v + " is BAD_ARG", x.atMost(pair, c, v) == BAD_ARG ? 1 : 0, right ? 0 : 1);
                    Check.due("atLeast at " + pair + " " + c + " " + v + " is BAD_ARG", x.atLeast(pair, c, v) == BAD_ARG ? 1 : 0, right ? 0 : 1);
                }
            }
        }
    }

    /** The arguments are tested before the states are looked at. */
    private static void wrongArgumentsOfAPairThatIsNotReached() {
        TimedPair x = new TimedPair();
        for (int pair = 1; pair <= 15; pair++) {
            Call.atMost(pair, 2, 0).due("not reached", x, BAD_ARG);
            Call.atMost(pair, 0, 7).due("not reached", x, BAD_ARG);
            Call.atLeast(pair, -1, 0).due("not reached", x, BAD_ARG);
            Call.atLeast(pair, 1, -1).due("not reached", x, BAD_ARG);
        }
    }

    /** Promise 8: "1 if some reached state has the locations of the pair, else 0" */
    private static void reachedAnswersOneOrZero() {
        for (int pair = 0; pair <= 15; pair++) {
            TimedPair x = new TimedPair();
            Call.reached(pair).due("no edge", x, pair == 0 ? 1 : 0);
            x.edge(0, 4 * (pair % 4), 0, 0);
            x.edge(1, 4 * (pair / 4), 0, 0);
            for (int other = 0; other <= 15; other++) {
                boolean in = (other % 4 == 0 || other % 4 == pair % 4) && (other / 4 == 0 || other / 4 == pair / 4);
                Call.reached(other).due("edges to " + pair, x, in ? 1 : 0);
            }
        }
    }

    /** Promise 9: "The least time of a reached state with the locations of the pair" */
    private static void earliestIsTheLeastTime() {
        TimedPair x = new TimedPair();
        x.edge(0, 8, 0, 0);
        x.guard(0, 0, 5, 7);
        Call.earliest(2).due("one way", x, 5);
        x.edge(0, 4, 1, 0);
        x.guard(1, 0, 2, 7);
        x.edge(0, 9, 0, 0);
        x.guard(2, 0, 2, 7);
        Call.earliest(2).due("a shorter way", x, 4);
        x.guard(2, 0, 3, 7);
        Call.earliest(2).due("a way as long", x, 5);
        x.guard(2, 0, 4, 7);
        Call.earliest(2).due("a longer way", x, 5);
        Call.earliest(0).due("the beginning", x, 0);
    }

    /** Promise 9: 0 at the beginning, 20 at the most */
    private static void earliestGoesFromZeroToTwenty() {
        for (int time = 0; time <= 24; time++) {
            TimedPair x = at(time);
            Call.earliest(4).due("time " + time, x, time <= 20 ? time : NONE);
            Call.reached(4).due("time " + time, x, time <= 20 ? 1 : 0);
        }
    }

    /** Process 1 comes to location 1, when process 0 is in location 0, by edge 0 (with edge 1) at this time, 0 to 24, and not before. */
    private static TimedPair at(int time) {
        TimedPair x = new TimedPair();
        int hops = Math.min(time / 6, 3);
        x.edge(1, 4, 0, 3);
        x.edge(0, hops, 0, 1);
        x.guard(1, 0, time - 6 * hops, 7);
        for (int l = 0; l < hops; l++) {
            x.edge(0, 4 * (l + 1) + l, 1, 0);
            x.guard(2 + l, 0, 6, 7);
        }
        return x;
    }

    /** Promise 9: "NONE if there is no such state" */
    private static void earliestOfNoState() {
        TimedPair x = new TimedPair();
        for (int pair = 1; pair <= 15; pair++) {
            Call.earliest(pair).due("no state", x, NONE);
        }
        x.edge(0, 4, 0, 0);
        x.bound(1, 0, 0);
        x.guard(0, 0, 1, 7);
        Call.earliest(1).due("a bound in the way", x, NONE);
        x.bound(1, 0, 1);
        Call.earliest(1).due("a bound just met", x, 1);
    }

    /**
     * Promise 9: "(a whole number always)". Clock 1 may be reset at any real time before 1, but what
     * is asked of the clocks afterwards is met at a whole time first.
     */
    private static void earliestWhereClocksWereAtFractions() {
        TimedPair x = new TimedPair();
        x.edge(1, 4, 2, 0);
        x.guard(0, 0, 0, 1);
        x.edge(0, 4, 1, 0);
        x.guard(1, 1, 2, 2);
        x.guard(1, 0, 2, 3);
        x.edge(0, 9, 0, 0);
        x.guard(2, 1, 5, 5);
        x.guard(2, 0, 2, 3);
        Call.earliest(5).due("fractions", x, 2);
        Call.earliest(6).due("fractions", x, 5);
        x.guard(1, 0, 3, 3);
        Call.earliest(5).due("fractions", x, 3);
        Call.earliest(6).due("fractions", x, 6);
    }

    /** Process 0 is in location 1 only when both clocks are from least to greatest. */
    private static TimedPair between(int least, int greatest) {
        TimedPair x = new TimedPair();
        x.edge(0, 4, 0, 0);
        x.guard(0, 0, least, greatest);
        x.urgent(1, 1);
        return x;
    }

    /** Promise 10: "has a value of at most v on clock c" */
    private static void atMostMeetsItsValue() {
        for (int least = 0; least <= 6; least++) {
            TimedPair x = between(least, 7);
            for (int c = 0; c <= 1; c++) {
                for (int v = 0; v <= 6; v++) {
                    Call.atMost(1, c, v).due("from " + least + " on", x, v >= least ? 1 : 0);
                    Call.atMost(0, c, v).due("the beginning", x, 1);
                }
            }
        }
    }

    /** Promise 10: a value above 6 is not at most 6. */
    private static void atMostOfAClockAboveSix() {
        for (int c = 0; c <= 1; c++) {
            TimedPair x = Sample.seven(c);
            x.urgent(1, 1);
            for (int v = 0; v <= 6; v++) {
                Call.atMost(1, c, v).due("above 6", x, 0);
                Call.atMost(1, 1 - c, v).due("the other at 1", x, v >= 1 ? 1 : 0);
            }
            Call.reached(1).due("above 6", x, 1);
        }
    }

    /** Promise 10: "else 0": of a pair that is not reached, even where every value is at most v */
    private static void atMostOfNoState() {
        TimedPair x = new TimedPair();
        for (int pair = 1; pair <= 15; pair++) {
            Call.atMost(pair, 0, 6).due("no state", x, 0);
            Call.atMost(pair, 1, 0).due("no state", x, 0);
        }
    }

    /** Promise 11: "has a value of at least v on clock c" */
    private static void atLeastMeetsItsValue() {
        for (int greatest = 0; greatest <= 7; greatest++) {
            TimedPair x = between(0, greatest);
            for (int c = 0; c <= 1; c++) {
                for (int v = 0; v <= 6; v++) {
                    Call.atLeast(1, c, v).due("up to " + greatest, x, v <= greatest ? 1 : 0);
                    Call.atLeast(0, c, v).due("no bound", x, 1);
                }
            }
        }
    }

    /** Promise 11: a value above 6 is at least 6. */
    private static void atLeastOfAClockAboveSix() {
        for (int c = 0; c <= 1; c++) {
            TimedPair x = Sample.seven(c);
            x.urgent(1, 1);
            for (int v = 0; v <= 6; v++) {
                Call.atLeast(1, c, v).due("above 6", x, 1);
                Call.atLeast(1, 1 - c, v).due("the other at 1", x, v <= 1 ? 1 : 0);
            }
        }
    }

    /** Promise 11: "else 0": of a pair that is not reached, even where every value is at least v */
    private static void atLeastOfNoState() {
        TimedPair x = new TimedPair();
        for (int pair = 1; pair <= 15; pair++) {
            Call.atLeast(pair, 0, 0).due("no state", x, 0);
            Call.atLeast(pair, 1, 6).due("no state", x, 0);
        }
    }

    /** Promises 10 and 11: "some reached state" need not be the same, nor the earliest, nor the latest. */
    private static void atMostAndAtLeastMayBeOfDifferentStates() {
        TimedPair x = between(5, 6);
        x.edge(0, 4, 3, 0);
        x.guard(1, 1, 4, 4);
        for (int c = 0; c <= 1; c++) {
            for (int v = 0; v <= 6; v++) {
                Call.atMost(1, c, v).due("at 0, 5 or 6", x, 1);
                Call.atLeast(1, c, v).due("at 0, 5 or 6", x, 1);
            }
        }
        x.drop(0);
        Call.atLeast(1, 0, 0).due("at 0", x, 1);
        Call.atLeast(1, 0, 1).due("at 0", x, 0);
    }

    /** Promise 12: "How many pairs there are": 1 at the least, 16 at the most */
    private static void pairsCountsFromOneToSixteen() {
        TimedPair x = new TimedPair();
        Call.pairs().due("no edge", x, 1);
        for (int l = 1; l <= 3; l++) {
            x.edge(0, 4 * l, 0, 0);
            Call.pairs().due("process 0 moves", x, 1 + l);
        }
        for (int l = 1; l <= 3; l++) {
            x.edge(1, 4 * l, 0, 0);
            Call.pairs().due("both move", x, 4 * (1 + l));
        }
        for (int e = 5; e >= 0; e--) {
            x.guard(e, 0, 1, 0);
        }
        Call.pairs().due("no edge usable", x, 1);
        TimedPair y = new TimedPair();
        y.edge(0, 12, 0, 1);
        y.edge(1, 12, 0, 3);
        Call.pairs().due("joint", y, 2);
    }

    /** Promise 13: "BAD_ARG if p is not 0 or 1" */
    private static void locationsOfAWrongProcess() {
        for (Supplier<TimedPair> sample : Sample.ALL) {
            for (int p : Outside.of(0, 1)) {
                Call.locations(p).refused("wrong process", sample, BAD_ARG);
            }
        }
        Call.locations(0).due("right process", Sample.some(), 15);
        Call.locations(1).due("right process", Sample.some(), 1);
    }

    /** Promise 13: "The set of the locations (bit l for location l)" */
    private static void locationsIsASetOfOneToFour() {
        for (int p = 0; p <= 1; p++) {
            for (int set = 1; set <= 15; set += 2) {
                TimedPair x = new TimedPair();
                for (int l = 1; l <= 3; l++) {
                    if ((set >> l & 1) == 1) {
                        x.edge(p, 4 * l, 0, 0);
                    }
                }
                Call.locations(p).due("set " + set, x, set);
                Call.locations(1 - p).due("the other process", x, 1);
            }
        }
    }

    /** Promise 14: "NONE if there is no edge e" */
    private static void usableOfNoEdge() {
        ofNoEdge(Call::usable);
    }

    private static void ofNoEdge(IntFunction<Call> kind) {
        for (int i = 0; i < Sample.EDGES.length; i++) {
            int edges = Sample.EDGES[i];
            for (int e : Outside.of(0, edges - 1)) {
                kind.apply(e).refused("of " + edges + " edges", Sample.ALL.get(i), NONE);
            }
            TimedPair x = Sample.ALL.get(i).get();
            for (int e = 0; e < edges; e++) {
                Call call = kind.apply(e);
                Check.due("of " + edges + " edges: " + call.text() + " is NONE", call.on(x) == NONE ? 1 : 0, 0);
            }
            if (edges > 0) {
                x.drop(0);
                kind.apply(edges - 1).due("a number that is no longer one", x, NONE);
            }
        }
    }

    /** Promise 14: "1 if from some reached state there is a move, silent or joint, by edge e, else 0" */
    private static void usableAnswersOneOrZero() {
        TimedPair x = new TimedPair();
        x.edge(0, 4, 0, 0);
        x.edge(0, 14, 0, 0);
        Call.usable(0).due("from the beginning", x, 1);
        Call.usable(1).due("from a location never come to", x, 0);
        x.guard(0, 1, 3, 7);
        x.bound(1, 1, 3);
        Call.usable(0).due("a bound just met afterwards", x, 1);
        x.bound(1, 1, 2);
        Call.usable(0).due("a bound passed afterwards", x, 0);
        x.bound(1, 1, 7);
        x.bound(4, 1, 2);
        Call.usable(0).due("a bound of the other process", x, 0);
    }

    /** Promise 14: "a move, silent or joint, by edge e": both edges of a joint move are used, and no third. */
    private static void usableInAJointMove() {
        TimedPair x = new TimedPair();
        x.edge(0, 4, 0, 1);
        Call.usable(0).due("no partner", x, 0);
        x.edge(1, 4, 0, 3);
        x.edge(1, 9, 0, 3);
        x.edge(1, 4, 0, 4);
        x.edge(0, 4, 0, 3);
        int[] want = {1, 1, 0, 0, 0};
        for (int e = 0; e < want.length; e++) {
            Call.usable(e).due("partners", x, want[e]);
        }
        x.drop(1);
        Call.usable(0).due("partner taken away", x, 0);
    }

    /** Promise 15: "NONE if there is none, or no edge e": no edge */
    private static void firstUseOfNoEdge() {
        ofNoEdge(Call::firstUse);
    }

    /** Promise 15: "The least time of a reached state from which there is a move by edge e" */
    private static void firstUseGoesFromZeroToTwenty() {
        for (int time = 0; time <= 24; time++) {
            TimedPair x = at(time);
            for (int e = 0; e <= 1; e++) {
                Call.firstUse(e).due("time " + time, x, time <= 20 ? time : NONE);
                Call.usable(e).due("time " + time, x, time <= 20 ? 1 : 0);
            }
        }
    }

    /** Promise 15: "NONE if there is none": an edge, but no move by it */
    private static void firstUseOfAnEdgeWithoutAMove() {
        TimedPair x = new TimedPair();
        x.edge(0, 5, 0, 0);
        x.edge(0, 4, 0, 2);
        x.edge(1, 4, 0, 0);
        x.guard(2, 0, 6, 5);
        for (int e = 0; e <= 2; e++) {
            Call.firstUse(e).due("no move", x, NONE);
            Call.usable(e).due("no move", x, 0);
        }
    }

    /** Promise 15: "of a reached state from which there is a move": a move out of a location that is left in no time counts */
    private static void firstUseIsTheTimeBeforeTheMove() {
        TimedPair x = new TimedPair();
        x.edge(0, 4, 0, 0);
        x.guard(0, 0, 2, 7);
        x.urgent(1, 1);
        x.edge(0, 9, 1, 0);
        x.edge(0, 14, 0, 0);
        x.guard(2, 0, 1, 7);
        Call.firstUse(0).due("first uses", x, 2);
        Call.firstUse(1).due("first uses", x, 2);
        Call.firstUse(2).due("first uses", x, 3);
        Call.earliest(3).due("first uses", x, 3);
    }
}
