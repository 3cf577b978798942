/** Promises 1 to 7: a new object, and the calls that change it. */
public final class ChangesTest {
    private static final int BAD_ARG = TimedPair.BAD_ARG;
    private static final int FULL = TimedPair.FULL;
    private static final int NONE = TimedPair.NONE;
    private static final int[] FAR = {Integer.MIN_VALUE, -1, Integer.MAX_VALUE};

    public static void main(String[] args) {
        newObject();
        edgeNumbers();
        edgeWrongArguments();
        edgeEnds();
        edgeResets();
        edgeSigns();
        edgeHasNoGuardsOfADroppedOne();
        guardWrongArguments();
        guardValuesMayBeMet();
        guardNeverMet();
        guardOfEachClock();
        dropAnswers();
        dropMovesEveryPartOfTheEdgesBehind();
        dropTakesThePartnerAway();
        boundAnswers();
        boundHolds();
        urgentAnswers();
        urgentHolds();
        Check.finish();
    }

    private static void due(String call, long got, long want) {
        Check.due(call, got, want);
    }

    private static void newObject() {
        TimedPair x = new TimedPair();
        due("new: edges()", x.edges(), 0);
        due("new: pairs()", x.pairs(), 1);
        due("new: earliest(0)", x.earliest(0), 0);
        for (int c = 0; c < 2; c++) {
            due("new: atMost(0, " + c + ", 0)", x.atMost(0, c, 0), 1);
            due("new: atLeast(0, " + c + ", 6)", x.atLeast(0, c, 6), 1);
        }
        for (int place = 0; place < 8; place++) {
            due("new: urgent(" + place + ", 0)", x.urgent(place, 0), 0);
            for (int c = 0; c < 2; c++) {
                due("new: bound(" + place + ", " + c + ", 7)", x.bound(place, c, 7), 7);
            }
        }
        due("new: drop(0)", x.drop(0), NONE);
        due("new: guard(0, 0, 0, 7)", x.guard(0, 0, 0, 7), NONE);
        due("new: usable(0)", x.usable(0), NONE);
    }

    private static void edgeNumbers() {
        TimedPair x = new TimedPair();
        for (int e = 0; e < 12; e++) {
            due("numbers: edge " + e, x.edge(e & 1, e, e & 3, e % 5), e);
            due("numbers: edges()", x.edges(), e + 1);
        }
        due("numbers: edge 12", x.edge(0, 0, 0, 0), FULL);
        due("numbers: edges() when full", x.edges(), 12);
        due("numbers: wrong p when full", x.edge(2, 0, 0, 0), BAD_ARG);
        due("numbers: wrong ends when full", x.edge(0, 16, 0, 0), BAD_ARG);
        due("numbers: wrong resets when full", x.edge(0, 0, 4, 0), BAD_ARG);
        due("numbers: wrong sign when full", x.edge(0, 0, 0, 5), BAD_ARG);
        due("numbers: drop(5)", x.drop(5), 11);
        due("numbers: edge after a drop", x.edge(1, 15, 3, 4), 11);
        due("numbers: full again", x.edge(1, 15, 3, 4), FULL);
    }

    private static void edgeWrongArguments() {
        TimedPair x = new TimedPair();
        for (int far : FAR) {
            due("edge(" + far + ", 0, 0, 0)", x.edge(far, 0, 0, 0), BAD_ARG);
            due("edge(0, " + far + ", 0, 0)", x.edge(0, far, 0, 0), BAD_ARG);
            due("edge(0, 0, " + far + ", 0)", x.edge(0, 0, far, 0), BAD_ARG);
            due("edge(0, 0, 0, " + far + ")", x.edge(0, 0, 0, far), BAD_ARG);
        }
        due("edge(2, 0, 0, 0)", x.edge(2, 0, 0, 0), BAD_ARG);
        due("edge(0, 16, 0, 0)", x.edge(0, 16, 0, 0), BAD_ARG);
        due("edge(0, 0, 4, 0)", x.edge(0, 0, 4, 0), BAD_ARG);
        due("edge(0, 0, 0, 5)", x.edge(0, 0, 0, 5), BAD_ARG);
        due("edges() after refused ones", x.edges(), 0);
        due("edge(1, 15, 3, 4)", x.edge(1, 15, 3, 4), 0);
    }

    private static void edgeEnds() {
        for (int p = 0; p < 2; p++) {
            for (int ends = 0; ends < 16; ends++) {
                TimedPair x = new TimedPair();
                x.edge(p, ends, 0, 0);
                String run = "ends " + p + " " + ends + ": ";
                int from = ends & 3;
                int to = ends >> 2;
                due(run + "usable(0)", x.usable(0), from == 0 ? 1 : 0);
                due(run + "locations(p)", x.locations(p), from == 0 ? 1 | 1 << to : 1);
                due(run + "locations(1 - p)", x.locations(1 - p), 1);
            }
        }
    }

    private static void edgeResets() {
        for (int resets = 0; resets < 4; resets++) {
            TimedPair x = new TimedPair();
            x.edge(0, 4, resets, 0);
            x.guard(0, 0, 3, 7);
            for (int c = 0; c < 2; c++) {
                int reset = resets >> c & 1;
                due("resets " + resets + ": atMost(1, " + c + ", 0)", x.atMost(1, c, 0), reset);
                due("resets " + resets + ": atMost(1, " + c + ", 2)", x.atMost(1, c, 2), reset);
                due("resets " + resets + ": atMost(1, " + c + ", 3)", x.atMost(1, c, 3), 1);
            }
        }
    }

    private static void edgeSigns() {
        for (int s = 0; s < 5; s++) {
            for (int t = 0; t < 5; t++) {
                TimedPair x = new TimedPair();
                x.edge(0, 4, 0, s);
                x.edge(1, 4, 0, t);
                String run = "signs " + s + " " + t + ": ";
                boolean joint = s != 0 && t != 0 && (s == t + 2 || t == s + 2);
                due(run + "usable(0)", x.usable(0), s == 0 || joint ? 1 : 0);
                due(run + "usable(1)", x.usable(1), t == 0 || joint ? 1 : 0);
                due(run + "reached(1)", x.reached(1), s == 0 ? 1 : 0);
                due(run + "reached(4)", x.reached(4), t == 0 ? 1 : 0);
                due(run + "reached(5)", x.reached(5), joint || s == 0 && t == 0 ? 1 : 0);
            }
        }
    }

    private static void edgeHasNoGuardsOfADroppedOne() {
        TimedPair x = new TimedPair();
        x.edge(0, 4, 3, 0);
        x.guard(0, 0, 6, 2);
        x.guard(0, 1, 5, 5);
        due("again: drop(0)", x.drop(0), 0);
        due("again: edge", x.edge(0, 4, 0, 0), 0);
        due("again: firstUse(0)", x.firstUse(0), 0);
        x.edge(0, 9, 0, 0);
        x.guard(1, 0, 6, 6);
        x.urgent(1, 1);
        due("again: usable(1)", x.usable(1), 1);
        due("again: atLeast(1, 0, 6)", x.atLeast(1, 0, 6), 1);
    }

    private static void guardWrongArguments() {
        TimedPair x = new TimedPair();
        x.edge(0, 4, 0, 0);
        due("guard(1, 2, 9, 9)", x.guard(1, 2, 9, 9), NONE);
        for (int far : FAR) {
            due("guard(" + far + ", 0, 1, 1)", x.guard(far, 0, 1, 1), NONE);
            due("guard(" + far + ", 2, 9, 9)", x.guard(far, 2, 9, 9), NONE);
            due("guard(0, " + far + ", 1, 1)", x.guard(0, far, 1, 1), BAD_ARG);
            due("guard(0, 0, " + far + ", 1)", x.guard(0, 0, far, 1), BAD_ARG);
            due("guard(0, 0, 1, " + far + ")", x.guard(0, 0, 1, far), BAD_ARG);
        }
        due("guard(1, 0, 1, 1)", x.guard(1, 0, 1, 1), NONE);
        due("guard(12, 0, 1, 1)", x.guard(12, 0, 1, 1), NONE);
        due("guard(0, 2, 1, 1)", x.guard(0, 2, 1, 1), BAD_ARG);
        due("guard(0, 0, 7, 7)", x.guard(0, 0, 7, 7), BAD_ARG);
        due("guard(0, 0, 1, 8)", x.guard(0, 0, 1, 8), BAD_ARG);
        due("refused guards: firstUse(0)", x.firstUse(0), 0);
        due("guard(0, 1, 6, 7)", x.guard(0, 1, 6, 7), 0);
        due("guard(0, 1, 0, 8)", x.guard(0, 1, 0, 8), BAD_ARG);
        due("refused after a guard: firstUse(0)", x.firstUse(0), 6);
    }

    private static void guardValuesMayBeMet() {
        for (int c = 0; c < 2; c++) {
            for (int least = 0; least <= 6; least++) {
                for (int greatest = 0; greatest <= 7; greatest++) {
                    TimedPair x = new TimedPair();
                    x.edge(0, 4, 0, 0);
                    x.urgent(1, 1);
                    String run = "guard " + c + " " + least + " " + greatest + ": ";
                    due(run + "answer", x.guard(0, c, least, greatest), 0);
                    boolean met = least <= greatest;
                    due(run + "firstUse(0)", x.firstUse(0), met ? least : NONE);
                    for (int v = 0; v <= 6; v++) {
                        due(run + "atMost(1, c, " + v + ")", x.atMost(1, c, v), met && least <= v ? 1 : 0);
                        due(run + "atLeast(1, c, " + v + ")", x.atLeast(1, c, v), met && greatest >= v ? 1 : 0);
                    }
                }
            }
        }
    }

    private static void guardNeverMet() {
        TimedPair x = new TimedPair();
        x.edge(0, 4, 0, 0);
        due("never: guard(0, 0, 3, 2)", x.guard(0, 0, 3, 2), 0);
        due("never: usable(0)", x.usable(0), 0);
        due("never: guard(0, 0, 2, 2)", x.guard(0, 0, 2, 2), 0);
        due("never: usable(0) after another guard", x.usable(0), 1);
    }

    private static void guardOfEachClock() {
        TimedPair x = new TimedPair();
        x.edge(0, 4, 0, 0);
        x.guard(0, 0, 2, 7);
        x.guard(0, 1, 5, 7);
        due("each: firstUse(0)", x.firstUse(0), 5);
        x.guard(0, 0, 0, 4);
        due("each: usable(0) when the clocks do not agree", x.usable(0), 0);
        x.guard(0, 1, 0, 7);
        due("each: firstUse(0) after a new guard", x.firstUse(0), 0);
    }

    private static void dropAnswers() {
        TimedPair x = new TimedPair();
        due("drop(0) of none", x.drop(0), NONE);
        x.edge(0, 4, 0, 0);
        x.edge(0, 9, 0, 0);
        x.edge(0, 14, 0, 0);
        for (int far : FAR) {
            due("drop(" + far + ")", x.drop(far), NONE);
        }
        due("drop(3)", x.drop(3), NONE);
        due("locations(0) after refused drops", x.locations(0), 15);
        due("drop(1)", x.drop(1), 2);
        due("locations(0) after drop(1)", x.locations(0), 3);
        due("drop(2)", x.drop(2), NONE);
        due("drop(1) of the last", x.drop(1), 1);
        due("edges()", x.edges(), 1);
        due("usable(0)", x.usable(0), 1);
        due("drop(0)", x.drop(0), 0);
        due("edges() at last", x.edges(), 0);
        due("pairs() at last", x.pairs(), 1);
    }

    private static void dropMovesEveryPartOfTheEdgesBehind() {
        TimedPair x = new TimedPair();
        x.edge(0, 0, 0, 0);
        x.guard(0, 0, 1, 1);
        x.edge(1, 8, 1, 3);
        x.guard(1, 0, 2, 5);
        x.guard(1, 1, 4, 6);
        x.edge(0, 12, 0, 1);
        x.guard(2, 0, 3, 7);
        due("behind: drop(0)", x.drop(0), 2);
        due("behind: firstUse(0)", x.firstUse(0), 4);
        due("behind: firstUse(1)", x.firstUse(1), 4);
        due("behind: usable(2)", x.usable(2), NONE);
        due("behind: locations(0)", x.locations(0), 9);
        due("behind: locations(1)", x.locations(1), 5);
        due("behind: atMost(11, 0, 0)", x.atMost(11, 0, 0), 1);
        due("behind: atMost(11, 1, 3)", x.atMost(11, 1, 3), 0);
        x.urgent(3, 1);
        due("behind: atLeast(11, 1, 5)", x.atLeast(11, 1, 5), 1);
        due("behind: atLeast(11, 1, 6)", x.atLeast(11, 1, 6), 0);
    }

    private static void dropTakesThePartnerAway() {
        for (int p = 0; p < 2; p++) {
            for (int e = 0; e < 2; e++) {
                TimedPair x = new TimedPair();
                x.edge(p, 4, 0, 1);
                x.edge(1 - p, 8, 0, 3);
                String run = "partner " + p + " " + e + ": ";
                due(run + "pairs()", x.pairs(), 2);
                due(run + "drop", x.drop(e), 1);
                due(run + "usable(0)", x.usable(0), 0);
                due(run + "pairs() after it", x.pairs(), 1);
                due(run + "locations(0) after it", x.locations(0), 1);
                due(run + "locations(1) after it", x.locations(1), 1);
            }
        }
    }

    private static void boundAnswers() {
        TimedPair x = new TimedPair();
        for (int i = 0; i < 16; i++) {
            due("bound of " + i, x.bound(i >> 1, i & 1, i % 7), 7);
        }
        for (int i = 0; i < 16; i++) {
            due("bound before of " + i, x.bound(i >> 1, i & 1, 7), i % 7);
            due("bound none of " + i, x.bound(i >> 1, i & 1, 3), 7);
        }
        for (int far : FAR) {
            due("bound(" + far + ", 0, 1)", x.bound(far, 0, 1), BAD_ARG);
            due("bound(0, " + far + ", 1)", x.bound(0, far, 1), BAD_ARG);
            due("bound(0, 0, " + far + ")", x.bound(0, 0, far), BAD_ARG);
        }
        due("bound(8, 0, 1)", x.bound(8, 0, 1), BAD_ARG);
        due("bound(0, 2, 1)", x.bound(0, 2, 1), BAD_ARG);
        due("bound(0, 0, 8)", x.bound(0, 0, 8), BAD_ARG);
        for (int i = 0; i < 16; i++) {
            due("bound after refused ones of " + i, x.bound(i >> 1, i & 1, 3), 3);
        }
    }

    private static void boundHolds() {
        for (int place = 0; place < 8; place += 4) {
            for (int c = 0; c < 2; c++) {
                for (int bound = 0; bound <= 6; bound++) {
                    TimedPair x = new TimedPair();
                    x.bound(place, c, bound);
                    for (int v = 0; v <= 6; v++) {
                        String call = "bound " + place + " " + c + " " + bound + ": atLeast(0, 0, " + v + ")";
                        due(call, x.atLeast(0, 0, v), v <= bound ? 1 : 0);
                    }
                    x.bound(place, c, 7);
                    due("no bound: atLeast(0, 0, 6)", x.atLeast(0, 0, 6), 1);
                }
            }
        }
    }

    private static void urgentAnswers() {
        TimedPair x = new TimedPair();
        for (int place = 0; place < 8; place++) {
            due("urgent(" + place + ", 1)", x.urgent(place, 1), 0);
            due("urgent(" + place + ", -1)", x.urgent(place, -1), 1);
            due("urgent(" + place + ", 0)", x.urgent(place, 0), 1);
            due("urgent(" + place + ", MIN)", x.urgent(place, Integer.MIN_VALUE), 0);
            due("urgent(" + place + ", 2)", x.urgent(place, 2), 1);
        }
        for (int far : FAR) {
            due("urgent(" + far + ", 0)", x.urgent(far, 0), BAD_ARG);
        }
        due("urgent(8, 0)", x.urgent(8, 0), BAD_ARG);
        for (int place = 0; place < 8; place++) {
            due("urgent(" + place + ", 0) after refused ones", x.urgent(place, 0), 1);
        }
    }

    private static void urgentHolds() {
        for (int place = 0; place < 8; place += 4) {
            TimedPair x = new TimedPair();
            x.edge(0, 4, 0, 0);
            x.guard(0, 0, 1, 7);
            x.urgent(place, 1);
            due("urgent " + place + ": usable(0)", x.usable(0), 0);
            due("urgent " + place + ": atLeast(0, 0, 1)", x.atLeast(0, 0, 1), 0);
            x.guard(0, 0, 0, 7);
            due("urgent " + place + ": a move without waiting", x.firstUse(0), 0);
            due("urgent " + place + ": waiting after it", x.atLeast(1, 0, 6), place == 0 ? 1 : 0);
            x.urgent(place, 0);
            x.guard(0, 0, 1, 7);
            due("urgent no more " + place + ": usable(0)", x.usable(0), 1);
        }
    }
}
