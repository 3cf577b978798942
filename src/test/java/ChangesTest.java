/** Promises 1 to 7 in runs of ordinary calls; ChangesBoundaryTest has their boundary cases. */
public final class ChangesTest {
    private static final int NONE = TimedPair.NONE;

    public static void main(String[] args) {
        edgeResets();
        edgeHasNoGuardsOfADroppedOne();
        guardValuesMayBeMet();
        guardOfEachClock();
        dropAnswers();
        dropMovesEveryPartOfTheEdgesBehind();
        dropTakesThePartnerAway();
        urgentHolds();
        Check.finish();
    }

    private static void due(String call, long got, long want) {
        Check.due(call, got, want);
    }

    private static void edgeResets() {
        for (int resets = 0; resets < 4; resets++) {
            TimedPair x = new TimedPair();
            x.edge(0, 4, resets, 0);
            x.guard(0, 0, 3, 7);
            for (int c = 0; c < 2; c++) {
                int reset = resets >> c & 1;
                due("resets " + resets + ": atMost(1, " + c + ", 0)", x.atMost(1, c, 0), reset);
                due("resets " + resets + ": atMost(1, " + c + ", 2)", x.atMost(1, c, 2), reset);
                due("resets " + resets + ": atMost(1, " + c + ", 3)", x.atMost(1, c, 3), 1);
            }
        }
    }

    private static void edgeHasNoGuardsOfADroppedOne() {
        TimedPair x = new TimedPair();
        x.edge(0, 4, 3, 0);
        x.guard(0, 0, 6, 2);
        x.guard(0, 1, 5, 5);
        due("again: drop(0)", x.drop(0), 0);
        due("again: edge", x.edge(0, 4, 0, 0), 0);
        due("again: firstUse(0)", x.firstUse(0), 0);
        x.edge(0, 9, 0, 0);
        x.guard(1, 0, 6, 6);
        x.urgent(1, 1);
        due("again: usable(1)", x.usable(1), 1);
        due("again: atLeast(1, 0, 6)", x.atLeast(1, 0, 6), 1);
    }

    private static void guardValuesMayBeMet() {
        for (int c = 0; c < 2; c++) {
            for (int least = 0; least <= 6; least++) {
                for (int greatest = 0; greatest <= 7; greatest++) {
                    TimedPair x = new TimedPair();
                    x.edge(0, 4, 0, 0);
                    x.urgent(1, 1);
                    String run = "guard " + c + " " + least + " " + greatest + ": ";
                    due(run + "answer", x.guard(0, c, least, greatest), 0);
                    boolean met = least <= greatest;
                    due(run + "firstUse(0)", x.firstUse(0), met ? least : NONE);
                    for (int v = 0; v <= 6; v++) {
                        due(run + "atMost(1, c, " + v + ")", x.atMost(1, c, v), met && least <= v ? 1 : 0);
                        due(run + "atLeast(1, c, " + v + ")", x.atLeast(1, c, v), met && greatest >= v ? 1 : 0);
                    }
                }
            }
        }
    }

    private static void guardOfEachClock() {
        TimedPair x = new TimedPair();
        x.edge(0, 4, 0, 0);
        x.guard(0, 0, 2, 7);
        x.guard(0, 1, 5, 7);
        due("each: firstUse(0)", x.firstUse(0), 5);
        x.guard(0, 0, 0, 4);
        due("each: usable(0) when the clocks do not agree", x.usable(0), 0);
        x.guard(0, 1, 0, 7);
        due("each: firstUse(0) after a new guard", x.firstUse(0), 0);
    }

    private static void dropAnswers() {
        TimedPair x = new TimedPair();
        due("drop(0) of none", x.drop(0), NONE);
        x.edge(0, 4, 0, 0);
        x.edge(0, 9, 0, 0);
        x.edge(0, 14, 0, 0);
        due("locations(0) before a drop", x.locations(0), 15);
        due("drop(1)", x.drop(1), 2);
        due("locations(0) after drop(1)", x.locations(0), 3);
        due("drop(2)", x.drop(2), NONE);
        due("drop(1) of the last", x.drop(1), 1);
        due("edges()", x.edges(), 1);
        due("usable(0)", x.usable(0), 1);
        due("drop(0)", x.drop(0), 0);
        due("edges() at last", x.edges(), 0);
        due("pairs() at last", x.pairs(), 1);
    }

    private static void dropMovesEveryPartOfTheEdgesBehind() {
        TimedPair x = new TimedPair();
        x.edge(0, 0, 0, 0);
        x.guard(0, 0, 1, 1);
        x.edge(1, 8, 1, 3);
        x.guard(1, 0, 2, 5);
        x.guard(1, 1, 4, 6);
        x.edge(0, 12, 0, 1);
        x.guard(2, 0, 3, 7);
        due("behind: drop(0)", x.drop(0), 2);
        due("behind: firstUse(0)", x.firstUse(0), 4);
        due("behind: firstUse(1)", x.firstUse(1), 4);
        due("behind: usable(2)", x.usable(2), NONE);
        due("behind: locations(0)", x.locations(0), 9);
        due("behind: locations(1)", x.locations(1), 5);
        due("behind: atMost(11, 0, 0)", x.atMost(11, 0, 0), 1);
        due("behind: atMost(11, 1, 3)", x.atMost(11, 1, 3), 0);
        x.urgent(3, 1);
        due("behind: atLeast(11, 1, 5)", x.atLeast(11, 1, 5), 1);
        due("behind: atLeast(11, 1, 6)", x.atLeast(11, 1, 6), 0);
    }

    private static void dropTakesThePartnerAway() {
        for (int p = 0; p < 2; p++) {
            for (int e = 0; e < 2; e++) {
                TimedPair x = new TimedPair();
                x.edge(p, 4, 0, 1);
                x.edge(1 - p, 8, 0, 3);
                String run = "partner " + p + " " + e + ": ";
                due(run + "pairs()", x.pairs(), 2);
                due(run + "drop", x.drop(e), 1);
                due(run + "usable(0)", x.usable(0), 0);
                due(run + "pairs() after it", x.pairs(), 1);
                due(run + "locations(0) after it", x.locations(0), 1);
                due(run + "locations(1) after it", x.locations(1), 1);
            }
        }
    }

    private static void urgentHolds() {
        for (int place = 0; place < 8; place += 4) {
            TimedPair x = new TimedPair();
            x.edge(0, 4, 0, 0);
            x.guard(0, 0, 1, 7);
            x.urgent(place, 1);
            due("urgent " + place + ": usable(0)", x.usable(0), 0);
            due("urgent " + place + ": atLeast(0, 0, 1)", x.atLeast(0, 0, 1), 0);
            x.guard(0, 0, 0, 7);
            due("urgent " + place + ": a move without waiting", x.firstUse(0), 0);
            due("urgent " + place + ": waiting after it", x.atLeast(1, 0, 6), place == 0 ? 1 : 0);
            x.urgent(place, 0);
            x.guard(0, 0, 1, 7);
            due("urgent no more " + place + ": usable(0)", x.usable(0), 1);
        }
    }
}
