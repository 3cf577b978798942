/** Promises 8 to 15 in runs of ordinary calls; AnswersBoundaryTest has their boundary cases. */
public final class AnswersTest {
    private static final int NONE = TimedPair.NONE;

    public static void main(String[] args) {
        boundAfterAMove();
        boundAfterAJointMove();
        jointGuardsAreAskedBeforeResets();
        jointNeedsBothLocations();
        sameProcessNeverJoins();
        clockAboveEveryValue();
        eachClockOfAPair();
        earliestOfSeveralWays();
        waitingForAgreement();
        pairsAndLocationsAreCounted();
        edgeToTheSameLocation();
        useNeedsTheBoundsAfterwards();
        everyPairWithEveryValue();
        Check.finish();
    }

    private static void due(String call, long got, long want) {
        Check.due(call, got, want);
    }

    /** An edge of process p whose clock c must be in these values. */
    private static int guarded(TimedPair x, int p, int ends, int resets, int c, int least, int greatest) {
        int e = x.edge(p, ends, resets, 0);
        x.guard(e, c, least, greatest);
        return e;
    }

    private static void boundAfterAMove() {
        for (int resets = 0; resets < 2; resets++) {
            TimedPair x = new TimedPair();
            x.edge(0, 4, resets, 0);
            x.guard(0, 0, 3, 7);
            x.bound(1, 0, 2);
            String run = "bound after, resets " + resets + ": ";
            due(run + "usable(0)", x.usable(0), resets);
            due(run + "reached(1)", x.reached(1), resets);
            due(run + "atLeast(1, 0, 2)", x.atLeast(1, 0, 2), resets);
            due(run + "atLeast(1, 0, 3)", x.atLeast(1, 0, 3), 0);
            x.bound(1, 0, 3);
            due(run + "firstUse(0) when the bound is met", x.firstUse(0), 3);
        }
    }

    private static void boundAfterAJointMove() {
        for (int who = 0; who < 3; who++) {
            TimedPair x = new TimedPair();
            x.edge(0, 4, who == 0 ? 1 : 0, 2);
            x.edge(1, 4, who == 1 ? 1 : 0, 4);
            x.guard(0, 0, 4, 7);
            x.bound(1, 0, 1);
            x.bound(5, 0, 0);
            String run = "joint bound " + who + ": ";
            due(run + "usable(0)", x.usable(0), who < 2 ? 1 : 0);
            due(run + "firstUse(1)", x.firstUse(1), who < 2 ? 4 : NONE);
            due(run + "reached(5)", x.reached(5), who < 2 ? 1 : 0);
            due(run + "atLeast(5, 0, 1)", x.atLeast(5, 0, 1), 0);
            due(run + "atMost(5, 1, 3)", x.atMost(5, 1, 3), 0);
            due(run + "atLeast(5, 1, 6)", x.atLeast(5, 1, 6), who < 2 ? 1 : 0);
        }
    }

    private static void jointGuardsAreAskedBeforeResets() {
        TimedPair x = new TimedPair();
        x.edge(0, 4, 3, 1);
        x.edge(1, 4, 0, 3);
        x.guard(1, 0, 5, 7);
        due("before resets: firstUse(0)", x.firstUse(0), 5);
        due("before resets: atMost(5, 0, 0)", x.atMost(5, 0, 0), 1);
        x.guard(1, 0, 0, 0);
        x.guard(0, 0, 1, 7);
        due("before resets: usable(0)", x.usable(0), 0);
        due("before resets: usable(1)", x.usable(1), 0);
        x.drop(1);
        x.drop(0);
        x.edge(1, 4, 1, 4);
        x.edge(0, 4, 2, 2);
        x.guard(0, 1, 2, 7);
        x.guard(1, 0, 3, 3);
        due("both reset: firstUse(0)", x.firstUse(0), 3);
        x.urgent(1, 1);
        due("both reset: atMost(5, 0, 0)", x.atMost(5, 0, 0), 1);
        due("both reset: atLeast(5, 0, 1)", x.atLeast(5, 0, 1), 0);
        due("both reset: atLeast(5, 1, 1)", x.atLeast(5, 1, 1), 0);
    }

    private static void jointNeedsBothLocations() {
        TimedPair x = new TimedPair();
        x.edge(0, 4, 0, 1);
        x.edge(1, 9, 0, 3);
        due("locations: usable(0)", x.usable(0), 0);
        due("locations: usable(1)", x.usable(1), 0);
        guarded(x, 1, 4, 0, 1, 2, 7);
        due("locations: firstUse(0)", x.firstUse(0), 2);
        due("locations: firstUse(1)", x.firstUse(1), 2);
        due("locations: earliest(9)", x.earliest(9), 2);
        due("locations: reached(8)", x.reached(8), 0);
        due("locations: reached(1)", x.reached(1), 0);
    }

    private static void sameProcessNeverJoins() {
        for (int p = 0; p < 2; p++) {
            TimedPair x = new TimedPair();
            x.edge(p, 4, 0, 1);
            x.edge(p, 4, 0, 3);
            x.edge(p, 4, 0, 2);
            x.edge(p, 4, 0, 4);
            due("same process: pairs()", x.pairs(), 1);
            for (int e = 0; e < 4; e++) {
                due("same process: usable(" + e + ")", x.usable(e), 0);
                due("same process: firstUse(" + e + ")", x.firstUse(e), NONE);
            }
        }
    }

    private static void clockAboveEveryValue() {
        TimedPair x = new TimedPair();
        guarded(x, 0, 4, 2, 1, 6, 7);
        int over = guarded(x, 0, 9, 0, 1, 1, 7);
        x.guard(over, 0, 0, 7);
        int last = guarded(x, 0, 14, 0, 0, 0, 6);
        due("above: earliest(2)", x.earliest(2), 7);
        due("above: atMost(2, 0, 6)", x.atMost(2, 0, 6), 0);
        due("above: atLeast(2, 0, 6)", x.atLeast(2, 0, 6), 1);
        due("above: atMost(2, 1, 1)", x.atMost(2, 1, 1), 1);
        due("above: usable(last)", x.usable(last), 0);
        x.guard(last, 0, 6, 7);
        due("above: firstUse(last)", x.firstUse(last), 7);
        x.bound(2, 0, 6);
        due("above: reached(2) with a bound", x.reached(2), 0);
        x.bound(2, 0, 7);
        x.bound(4, 0, 6);
        due("above: reached(2) with the other's bound", x.reached(2), 0);
        due("above: reached(1) with the other's bound", x.reached(1), 1);
    }

    private static void eachClockOfAPair() {
        TimedPair x = new TimedPair();
        x.edge(0, 12, 1, 0);
        x.guard(0, 0, 4, 5);
        x.urgent(3, 1);
        for (int v = 0; v <= 6; v++) {
            due("each clock: atMost(3, 0, " + v + ")", x.atMost(3, 0, v), 1);
            due("each clock: atLeast(3, 0, " + v + ")", x.atLeast(3, 0, v), v == 0 ? 1 : 0);
            due("each clock: atMost(3, 1, " + v + ")", x.atMost(3, 1, v), v >= 4 ? 1 : 0);
            due("each clock: atLeast(3, 1, " + v + ")", x.atLeast(3, 1, v), v <= 5 ? 1 : 0);
            due("each clock: atMost(12, 1, " + v + ")", x.atMost(12, 1, v), 0);
            due("each clock: atLeast(12, 1, " + v + ")", x.atLeast(12, 1, v), 0);
        }
    }

    private static void earliestOfSeveralWays() {
        TimedPair x = new TimedPair();
        guarded(x, 0, 8, 0, 0, 6, 7);
        guarded(x, 0, 4, 1, 0, 2, 7);
        guarded(x, 0, 9, 0, 0, 2, 7);
        due("ways: earliest(2)", x.earliest(2), 4);
        due("ways: firstUse(0)", x.firstUse(0), 6);
        due("ways: firstUse(2)", x.firstUse(2), 4);
        x.guard(1, 0, 5, 7);
        due("ways: earliest(2) when the other is shorter", x.earliest(2), 6);
        x.drop(0);
        due("ways: earliest(2) when one is left", x.earliest(2), 7);
    }

    /** Each clock is reset again and again: clock 0 at 0 and clock 1 at 1 may come together late, or never. */
    private static void waitingForAgreement() {
        int[] steps = {2, 3, 4, 5, 6};
        for (int one : steps) {
            for (int other : steps) {
                TimedPair x = new TimedPair();
                guarded(x, 0, 0, 1, 0, one, one);
                guarded(x, 1, 0, 2, 1, other, other);
                x.bound(0, 0, one);
                x.bound(4, 1, other);
                guarded(x, 0, 4, 0, 0, 0, 0);
                x.guard(2, 1, 1, 1);
                int time = agreement(one, other);
                due("agreement " + one + " " + other, x.firstUse(2), time <= 20 ? time : NONE);
            }
        }
    }

    private static int agreement(int one, int other) {
        int time = one;
        while (time <= 20 && time % other != 1) {
            time += one;
        }
        return time;
    }

    private static void pairsAndLocationsAreCounted() {
        TimedPair x = new TimedPair();
        due("count: pairs()", x.pairs(), 1);
        for (int l = 1; l < 4; l++) {
            x.edge(0, 4 * l, 0, 0);
            due("count: pairs() with " + l, x.pairs(), l + 1);
        }
        for (int l = 1; l < 4; l++) {
            x.edge(1, 4 * l, 0, 0);
            due("count: pairs() with 3 and " + l, x.pairs(), 4 * (l + 1));
        }
        due("count: locations(0)", x.locations(0), 15);
        due("count: locations(1)", x.locations(1), 15);
        for (int pair = 0; pair < 16; pair++) {
            due("count: reached(" + pair + ")", x.reached(pair), 1);
            due("count: earliest(" + pair + ")", x.earliest(pair), 0);
        }
        x.drop(4);
        due("count: locations(1) without 2", x.locations(1), 11);
        due("count: pairs() without 2", x.pairs(), 12);
    }

    private static void edgeToTheSameLocation() {
        TimedPair x = new TimedPair();
        guarded(x, 1, 0, 2, 1, 3, 3);
        guarded(x, 1, 12, 0, 0, 6, 6);
        x.guard(1, 1, 0, 0);
        due("same location: firstUse(0)", x.firstUse(0), 3);
        due("same location: firstUse(1)", x.firstUse(1), 6);
        due("same location: locations(1)", x.locations(1), 9);
        x.bound(4, 1, 2);
        due("same location: usable(0) below its guard", x.usable(0), 0);
    }

    private static void useNeedsTheBoundsAfterwards() {
        TimedPair x = new TimedPair();
        x.edge(0, 4, 0, 0);
        x.guard(0, 1, 2, 7);
        x.bound(1, 1, 1);
        due("use: usable(0)", x.usable(0), 0);
        due("use: firstUse(0)", x.firstUse(0), NONE);
        x.bound(1, 1, 2);
        due("use: firstUse(0) when the bound is met", x.firstUse(0), 2);
        x.bound(4, 1, 1);
        due("use: usable(0) with the other's bound", x.usable(0), 0);
    }

    /** As many states as there can be, so that what holds them is full. */
    private static void everyPairWithEveryValue() {
        TimedPair x = new TimedPair();
        x.edge(0, 0, 1, 0);
        x.edge(1, 0, 2, 0);
        for (int l = 1; l < 4; l++) {
            x.edge(0, 4 * l, 0, 0);
            x.edge(1, 4 * l, 0, 0);
        }
        due("every: pairs()", x.pairs(), 16);
        due("every: locations(0)", x.locations(0), 15);
        due("every: locations(1)", x.locations(1), 15);
        for (int pair = 0; pair < 16; pair++) {
            due("every: earliest(" + pair + ")", x.earliest(pair), 0);
            for (int c = 0; c < 2; c++) {
                due("every: atMost(" + pair + ", " + c + ", 0)", x.atMost(pair, c, 0), 1);
                due("every: atLeast(" + pair + ", " + c + ", 6)", x.atLeast(pair, c, 6), 1);
            }
        }
        // Waiting by 1 and resetting clock 0 over and over still lets clock 1 grow.
        x.bound(0, 0, 1);
        due("every: atLeast(0, 1, 6) with a bound", x.atLeast(0, 1, 6), 1);
        x.drop(0);
        due("every: atLeast(0, 1, 1) without the reset", x.atLeast(0, 1, 1), 1);
        due("every: atLeast(0, 1, 2) without the reset", x.atLeast(0, 1, 2), 0);
    }
}
