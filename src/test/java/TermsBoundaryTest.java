import java.util.ArrayList;
import java.util.List;
import java.util.function.Supplier;

/** The boundary cases of 'What it is' and of 'Terms': each test stands below the words that it tests. */
public final class TermsBoundaryTest {
    private static final int BAD_ARG = TimedPair.BAD_ARG;
    private static final int FULL = TimedPair.FULL;
    private static final int NONE = TimedPair.NONE;
    private static final int[] ANY = {
        Integer.MIN_VALUE, Integer.MIN_VALUE + 1, -1, 0, 1, 7, 16, 1 << 30, Integer.MAX_VALUE
    };

    public static void main(String[] args) {
        the512thCallStillAnswers();
        bothProcessesBeginInLocationZero();
        eachProcessHasFourLocations();
        clocksAndTimeBeginAtZero();
        boundsGoFromZeroToSix();
        atMostTwelveEdges();
        edgesMayLeadToTheSameLocation();
        leastValuesGoFromZeroToSix();
        greatestValuesGoFromZeroToSixOrNone();
        channelsAreZeroAndOne();
        waitingNeedsBothNotUrgent();
        waitingGrowsAllAlike();
        waitingMayMeetABoundButNotPassIt();
        silentMoveStartsInItsLocation();
        silentMoveMeetsLeastAndGreatest();
        silentMoveKeepsTheBoundsAfterwards();
        silentMoveForgetsTheBoundOfTheLocationLeft();
        silentMoveIsFreeInAnUrgentLocation();
        jointMoveNeedsOneEdgeOfEachProcess();
        jointMoveStartsInBothLocations();
        jointMoveMeetsWhatBothEdgesAsk();
        jointMoveResetsTheClocksOfBoth();
        jointMoveKeepsTheBoundsAfterwards();
        theBeginningIsReached();
        anyNumberOfSteps();
        timeTwentyIsReachedAndTimeTwentyOneIsNot();
        anyNumberOfMovesAtTimeTwenty();
        pairsAreWrittenAsTheFirstPlusFourTimesTheSecond();
        placesAreWrittenAsFourTimesTheProcessPlusTheLocation();
        noCallEverThrows();
        refusedCallsChangeNothing();
        Check.finish();
    }

    /** A silent edge of process p whose two clocks must both be in these values. */
    private static int silent(TimedPair x, int p, int ends, int resets, int least, int greatest) {
        int e = x.edge(p, ends, resets, 0);
        x.guard(e, 0, least, greatest);
        x.guard(e, 1, least, greatest);
        return e;
    }

    /** "An object is used for at most 512 calls after it has been made" */
    private static void the512thCallStillAnswers() {
        Call[] last = {
            Call.edge(0, 8, 0, 0), Call.guard(0, 0, 5, 5), Call.drop(0), Call.bound(0, 0, 2), Call.urgent(0, 1),
            Call.edges(), Call.reached(1), Call.earliest(1), Call.atMost(1, 1, 1), Call.atLeast(1, 0, 6),
            Call.pairs(), Call.locations(0), Call.usable(0), Call.firstUse(0)
        };
        int[] want = {1, 0, 0, 6, 0, 1, 1, 2, 0, 1, 2, 3, 1, 2};
        for (int i = 0; i < last.length; i++) {
            TimedPair x = new TimedPair();
            silent(x, 0, 4, 0, 2, 7);
            int calls = 3;
            for (; calls < 511 - 4; calls += 4) {
                Call.edge(1, 12, 3, 0).due("call " + (calls + 1), x, 1);
                Call.drop(1).due("call " + (calls + 2), x, 1);
                Call.bound(0, 0, 6).due("call " + (calls + 3), x, calls == 3 ? 7 : 6);
                Call.pairs().due("call " + (calls + 4), x, 2);
            }
            for (; calls < 511; calls++) {
                Call.edge(0, 0, 0, 5).due("call " + (calls + 1), x, BAD_ARG);
            }
            last[i].due("call 512", x, want[i]);
        }
    }

    /** "each has the LOCATIONS 0 to 3 and is in location 0 at the beginning" */
    private static void bothProcessesBeginInLocationZero() {
        TimedPair x = new TimedPair();
        Call.locations(0).due("beginning", x, 1);
        Call.locations(1).due("beginning", x, 1);
        Call.reached(0).due("beginning", x, 1);
        for (int pair = 1; pair < 16; pair++) {
            Call.reached(pair).due("beginning", x, 0);
        }
    }

    /** "each has the LOCATIONS 0 to 3" */
    private static void eachProcessHasFourLocations() {
        for (int p = 0; p < 2; p++) {
            TimedPair x = new TimedPair();
            int set = 1;
            for (int l = 1; l <= 3; l++) {
                x.edge(p, 4 * l + l - 1, 0, 0);
                set |= 1 << l;
                Call.locations(p).due("locations up to " + l, x, set);
                Call.locations(1 - p).due("the other process", x, 1);
            }
        }
    }

    /** "they have real numbers as values, 0 at the beginning" */
    private static void clocksAndTimeBeginAtZero() {
        TimedPair x = new TimedPair();
        x.urgent(0, 1);
        Call.earliest(0).due("beginning", x, 0);
        for (int c = 0; c < 2; c++) {
            Call.atMost(0, c, 0).due("beginning", x, 1);
            Call.atLeast(0, c, 0).due("beginning", x, 1);
            Call.atLeast(0, c, 1).due("beginning", x, 0);
        }
        silent(x, 0, 4, 0, 0, 0);
        Call.firstUse(0).due("beginning", x, 0);
    }

    /** "A location may have, for each clock, a BOUND from 0 to 6" */
    private static void boundsGoFromZeroToSix() {
        for (int place = 0; place <= 4; place += 4) {
            for (int c = 0; c < 2; c++) {
                for (int bound = 0; bound <= 7; bound++) {
                    TimedPair x = Sample.seven(c);
                    x.bound(place, c, bound);
                    String run = "bound " + place + " " + c + " " + bound;
                    for (int v = 0; v <= 6; v++) {
                        Call.atLeast(0, c, v).due(run, x, v <= bound ? 1 : 0);
                    }
                    Call.firstUse(0).due(run, x, bound >= 6 ? 6 : NONE);
                    Call.firstUse(1).due(run, x, bound == 7 ? 7 : NONE);
                }
            }
        }
    }

    /** "EDGES (at most 12, numbered from 0 on)" */
    private static void atMostTwelveEdges() {
        for (int sign = 0; sign <= 4; sign++) {
            TimedPair x = new TimedPair();
            for (int e = 0; e <= 11; e++) {
                Call.edge(e & 1, 15 - e, 3, sign).due("edge " + e, x, e);
            }
            Call.edge(0, 0, 0, 0).due("a thirteenth", x, FULL);
            Call.edges().due("a thirteenth", x, 12);
            Call.drop(11).due("room for one", x, 11);
            Call.edge(0, 0, 0, 0).due("room for one", x, 11);
            Call.edge(0, 0, 0, 0).due("no room again", x, FULL);
        }
    }

    /** "lead from one of its locations to one (perhaps the same)" */
    private static void edgesMayLeadToTheSameLocation() {
        for (int p = 0; p < 2; p++) {
            for (int l = 0; l <= 3; l++) {
                TimedPair x = new TimedPair();
                int there = x.edge(p, 4 * l, 0, 0);
                int same = silent(x, p, 4 * l + l, 3, 3, 3);
                String run = "same location " + p + " " + l;
                Call.firstUse(there).due(run, x, 0);
                Call.firstUse(same).due(run, x, 3);
                Call.locations(p).due(run, x, 1 | 1 << l);
            }
        }
    }

    /** "An edge has for each clock a LEAST value from 0 to 6" */
    private static void leastValuesGoFromZeroToSix() {
        for (int c = 0; c < 2; c++) {
            for (int least = 0; least <= 6; least++) {
                TimedPair x = new TimedPair();
                x.edge(0, 4, 0, 0);
                String run = "least value of clock " + c;
                Call.guard(0, c, least, 7).due(run, x, 0);
                Call.firstUse(0).due(run + ", " + least, x, least);
                if (least > 0) {
                    x.bound(0, c, least - 1);
                    Call.usable(0).due(run + ", just below " + least, x, 0);
                }
            }
        }
    }

    /** "and a GREATEST value from 0 to 6 or none" */
    private static void greatestValuesGoFromZeroToSixOrNone() {
        for (int c = 0; c < 2; c++) {
            for (int greatest = 0; greatest <= 7; greatest++) {
                TimedPair x = Sample.seven(c);
                x.edge(0, 9, 0, 0);
                String run = "greatest value of clock " + c;
                Call.guard(2, c, 0, greatest).due(run, x, 0);
                Call.firstUse(2).due(run + " at 7, " + greatest, x, greatest == 7 ? 7 : NONE);
                if (greatest <= 6) {
                    x.guard(1, 1 - c, 0, 7);
                    x.guard(1, c, greatest, 7);
                    Call.firstUse(2).due(run + " at " + greatest + ", the same", x, greatest);
                }
            }
        }
    }

    /** "it is SILENT, or SENDS or RECEIVES on CHANNEL 0 or 1", "one sends and the other receives on the same channel" */
    private static void channelsAreZeroAndOne() {
        for (int sign = 0; sign <= 4; sign++) {
            for (int other = 0; other <= 4; other++) {
                TimedPair x = new TimedPair();
                x.edge(0, 4, 0, sign);
                x.edge(1, 8, 0, other);
                String run = "signs " + sign + " and " + other;
                boolean joint = sign == 1 && other == 3 || sign == 3 && other == 1 || sign == 2 && other == 4 || sign == 4 && other == 2;
                Call.usable(0).due(run, x, joint || sign == 0 ? 1 : 0);
                Call.usable(1).due(run, x, joint || other == 0 ? 1 : 0);
                Call.reached(1).due(run, x, sign == 0 ? 1 : 0);
                Call.reached(8).due(run, x, other == 0 ? 1 : 0);
                Call.reached(9).due(run, x, joint || sign == 0 && other == 0 ? 1 : 0);
            }
        }
    }

    /** "WAITING: neither process's location is urgent" */
    private static void waitingNeedsBothNotUrgent() {
        for (int one = 0; one < 2; one++) {
            for (int other = 0; other < 2; other++) {
                TimedPair x = new TimedPair();
                x.urgent(0, one);
                x.urgent(4, other);
                String run = "urgent " + one + " and " + other;
                Call.atLeast(0, 0, 1).due(run, x, one + other == 0 ? 1 : 0);
                Call.atLeast(0, 1, 6).due(run, x, one + other == 0 ? 1 : 0);
                Call.reached(0).due(run, x, 1);
            }
        }
    }

    /** "the clocks and the time all grow by the same real number, 0 or more" */
    private static void waitingGrowsAllAlike() {
        for (int time = 0; time <= 6; time++) {
            TimedPair x = new TimedPair();
            x.edge(0, 4, 0, 0);
            x.guard(0, 0, time, time);
            x.urgent(1, 1);
            String run = "waited for " + time;
            Call.earliest(1).due(run, x, time);
            Call.atMost(1, 1, time).due(run, x, 1);
            Call.atLeast(1, 1, time).due(run, x, 1);
            if (time > 0) {
                Call.atMost(1, 1, time - 1).due(run, x, 0);
            }
            if (time < 6) {
                Call.atLeast(1, 1, time + 1).due(run, x, 0);
            }
        }
    }

    /** "afterwards no clock may be above a bound of the location of a process" */
    private static void waitingMayMeetABoundButNotPassIt() {
        for (int place = 0; place < 8; place++) {
            for (int c = 0; c < 2; c++) {
                TimedPair x = new TimedPair();
                int p = place / 4;
                int l = place % 4;
                x.edge(p, 4 * l, 0, 0);
                x.bound(place, c, 3);
                int pair = p == 0 ? l : 4 * l;
                String run = "waiting, bound of place " + place + " and clock " + c;
                for (int either = 0; either < 2; either++) {
                    Call.atLeast(pair, either, 3).due(run, x, 1);
                    Call.atLeast(pair, either, 4).due(run, x, 0);
                }
            }
        }
    }

    /** "A SILENT MOVE by a silent edge from the location of its process" */
    private static void silentMoveStartsInItsLocation() {
        for (int p = 0; p < 2; p++) {
            for (int from = 0; from <= 3; from++) {
                TimedPair x = new TimedPair();
                x.edge(1 - p, 4 * from, 0, 0);
                int e = x.edge(p, 4 * (3 - from) + from, 0, 0);
                String run = "from " + from + " of process " + p;
                Call.usable(e).due(run + ", the other is there", x, from == 0 ? 1 : 0);
                x.edge(p, 4 * from, 0, 0);
                Call.usable(e).due(run, x, 1);
            }
        }
    }

    /** "each clock must be at least its least value and not above its greatest" */
    private static void silentMoveMeetsLeastAndGreatest() {
        for (int c = 0; c < 2; c++) {
            for (int at = 0; at <= 6; at++) {
                TimedPair x = new TimedPair();
                // Both clocks are at this value in location 1, and nothing waits there.
                silent(x, 0, 4, 0, at, at);
                x.urgent(1, 1);
                int e = x.edge(0, 9, 0, 0);
                String run = "clock " + c + " at " + at;
                for (int value = 0; value <= 6; value++) {
                    x.guard(e, c, value, 7);
                    Call.usable(e).due(run + ", least " + value, x, at >= value ? 1 : 0);
                    x.guard(e, c, 0, value);
                    Call.usable(e).due(run + ", greatest " + value, x, at <= value ? 1 : 0);
                }
                x.guard(e, c, 0, 7);
                Call.usable(e).due(run + ", no greatest", x, 1);
            }
        }
    }

    /** "the clocks that it resets become 0; after that no clock may be above a bound of the location of a process" */
    private static void silentMoveKeepsTheBoundsAfterwards() {
        for (int p = 0; p < 2; p++) {
            for (int c = 0; c < 2; c++) {
                for (int resets = 0; resets <= 3; resets++) {
                    TimedPair x = new TimedPair();
                    silent(x, p, 4, resets, 4, 4);
                    String run = "move of " + p + " at 4 that resets " + resets + ", clock " + c;
                    int reset = resets >> c & 1;
                    for (int bound = 0; bound <= 7; bound++) {
                        x.bound(4 * p + 1, c, bound);
                        Call.usable(0).due(run + ", bound " + bound, x, reset == 1 || bound >= 4 ? 1 : 0);
                        Call.reached(p == 0 ? 1 : 4).due(run + ", bound " + bound, x, reset == 1 || bound >= 4 ? 1 : 0);
                    }
                }
            }
        }
    }

    /** "after that no clock may be above a bound of the location of a process": the one left is no longer one. */
    private static void silentMoveForgetsTheBoundOfTheLocationLeft() {
        for (int c = 0; c < 2; c++) {
            TimedPair x = new TimedPair();
            x.bound(0, c, 2);
            x.edge(0, 4, 0, 0);
            String run = "bound of the location left, clock " + c;
            Call.atLeast(0, c, 3).due(run, x, 0);
            Call.atLeast(1, c, 6).due(run, x, 1);
            x.bound(4, c, 1);
            Call.atLeast(1, c, 1).due(run + ", the other process stays", x, 1);
            Call.atLeast(1, c, 2).due(run + ", the other process stays", x, 0);
        }
    }

    /** "WAITING: neither process's location is urgent" is not asked of a move. */
    private static void silentMoveIsFreeInAnUrgentLocation() {
        TimedPair x = new TimedPair();
        for (int place = 0; place < 8; place++) {
            x.urgent(place, 1);
        }
        for (int l = 1; l <= 3; l++) {
            x.edge(0, 4 * l + l - 1, 0, 0);
            x.edge(1, 4 * l + l - 1, 0, 0);
        }
        Call.pairs().due("all urgent", x, 16);
        Call.earliest(15).due("all urgent", x, 0);
        Call.atLeast(15, 0, 1).due("all urgent", x, 0);
    }

    /** "A JOINT MOVE by an edge of process 0 and one of process 1" */
    private static void jointMoveNeedsOneEdgeOfEachProcess() {
        for (int p = 0; p < 2; p++) {
            for (int q = 0; q < 2; q++) {
                TimedPair x = new TimedPair();
                x.edge(p, 4, 0, 1);
                x.edge(q, 8, 0, 3);
                String run = "joint move of " + p + " and " + q;
                Call.usable(0).due(run, x, p != q ? 1 : 0);
                Call.usable(1).due(run, x, p != q ? 1 : 0);
                Call.pairs().due(run, x, p != q ? 2 : 1);
                Call.reached(p == 0 ? 9 : 6).due(run, x, p != q ? 1 : 0);
            }
        }
    }

    /** "each from the location of its process" */
    private static void jointMoveStartsInBothLocations() {
        for (int one = 0; one < 2; one++) {
            for (int other = 0; other < 2; other++) {
                TimedPair x = new TimedPair();
                x.edge(0, 8 + one, 0, 2);
                x.edge(1, 8 + other, 0, 4);
                String run = "joint move from " + one + " and " + other;
                Call.usable(0).due(run, x, one + other == 0 ? 1 : 0);
                Call.usable(1).due(run, x, one + other == 0 ? 1 : 0);
                Call.locations(0).due(run, x, one + other == 0 ? 5 : 1);
                Call.locations(1).due(run, x, one + other == 0 ? 5 : 1);
            }
        }
    }

    /** "what is asked of the clocks must hold for both edges" */
    private static void jointMoveMeetsWhatBothEdgesAsk() {
        for (int c = 0; c < 2; c++) {
            for (int least = 0; least <= 6; least++) {
                for (int greatest = 0; greatest <= 7; greatest++) {
                    for (int who = 0; who < 2; who++) {
                        TimedPair x = new TimedPair();
                        x.edge(who, 4, 0, 1);
                        x.guard(0, c, least, 7);
                        x.edge(1 - who, 4, 3, 3);
                        x.guard(1, 1 - c, 0, greatest);
                        String run = "joint move, " + who + " at least " + least + ", the other at most " + greatest;
                        int first = least <= greatest ? least : NONE;
                        Call.firstUse(0).due(run, x, first);
                        Call.firstUse(1).due(run, x, first);
                        Call.earliest(5).due(run, x, first);
                    }
                }
            }
        }
    }

    /** "both processes change their locations and the clocks that one of them resets become 0" */
    private static void jointMoveResetsTheClocksOfBoth() {
        for (int resets = 0; resets <= 3; resets++) {
            for (int others = 0; others <= 3; others++) {
                TimedPair x = new TimedPair();
                x.edge(0, 4, resets, 4);
                x.guard(0, 0, 2, 2);
                x.edge(1, 12, others, 2);
                x.urgent(1, 1);
                String run = "joint move, resets " + resets + " and " + others;
                Call.pairs().due(run, x, 2);
                for (int c = 0; c < 2; c++) {
                    int value = ((resets | others) >> c & 1) == 1 ? 0 : 2;
                    Call.atMost(13, c, value).due(run, x, 1);
                    Call.atLeast(13, c, value).due(run, x, 1);
                    Call.atMost(13, c, 1).due(run, x, value == 0 ? 1 : 0);
                    Call.atLeast(13, c, 1).due(run, x, value == 0 ? 0 : 1);
                }
            }
        }
    }

    /** "after that no clock may be above a bound of the location of a process", of a joint move */
    private static void jointMoveKeepsTheBoundsAfterwards() {
        for (int place = 1; place <= 6; place += 5) {
            for (int c = 0; c < 2; c++) {
                for (int resets = 0; resets <= 3; resets++) {
                    for (int bound = 0; bound <= 7; bound++) {
                        TimedPair x = new TimedPair();
                        x.edge(0, 4, resets & 1, 1);
                        x.edge(1, 8, resets & 2, 3);
                        x.guard(1, 1, 5, 7);
                        x.bound(place, c, bound);
                        int reset = resets >> c & 1;
                        String run = "joint move at 5, resets " + resets + ", bound " + bound + " of " + place + " and " + c;
                        boolean kept = reset == 1 || bound >= 5;
                        Call.firstUse(0).due(run, x, kept ? 5 : NONE);
                        Call.firstUse(1).due(run, x, kept ? 5 : NONE);
                        Call.reached(9).due(run, x, kept ? 1 : 0);
                    }
                }
            }
        }
    }

    /** "A state is REACHED if it is the beginning" */
    private static void theBeginningIsReached() {
        TimedPair x = new TimedPair();
        for (int place = 0; place < 8; place++) {
            x.urgent(place, 1);
            x.bound(place, 0, 0);
            x.bound(place, 1, 0);
        }
        Call.reached(0).due("only the beginning", x, 1);
        Call.earliest(0).due("only the beginning", x, 0);
        Call.atMost(0, 0, 0).due("only the beginning", x, 1);
        Call.atLeast(0, 1, 0).due("only the beginning", x, 1);
        Call.pairs().due("only the beginning", x, 1);
        Call.locations(0).due("only the beginning", x, 1);
        Call.locations(1).due("only the beginning", x, 1);
    }

    /** "or comes about in any number of such steps": here some 45, as clock 0 never goes above 1. */
    private static void anyNumberOfSteps() {
        TimedPair x = new TimedPair();
        x.bound(4, 0, 1);
        int tick = x.edge(1, 0, 1, 0);
        x.guard(tick, 0, 1, 1);
        for (int l = 0; l < 3; l++) {
            int on = x.edge(0, 4 * (l + 1) + l, 2, 0);
            x.guard(on, 1, 6, 7);
        }
        int last = x.edge(0, 3, 0, 0);
        x.guard(last, 1, 2, 7);
        for (int l = 0; l <= 3; l++) {
            Call.earliest(l).due("many steps", x, 6 * l);
        }
        Call.firstUse(last).due("many steps", x, 20);
        x.drop(tick);
        Call.pairs().due("without the tick", x, 1);
    }

    /** "and its time is at most 20" */
    private static void timeTwentyIsReachedAndTimeTwentyOneIsNot() {
        for (int more = 0; more <= 6; more++) {
            TimedPair x = Sample.eighteen();
            x.edge(1, 4, 2, 1);
            x.edge(0, 3, 0, 3);
            x.guard(4, 0, more, 7);
            int time = 18 + more;
            int in = time <= 20 ? 1 : 0;
            String run = "time " + time;
            Call.reached(4).due(run, x, in);
            Call.earliest(4).due(run, x, in == 1 ? time : NONE);
            Call.atMost(4, 1, 0).due(run, x, in);
            Call.atLeast(4, 0, more).due(run, x, in);
            Call.atLeast(3, 0, more).due(run, x, in);
            Call.pairs().due(run, x, 4 + in);
            Call.locations(1).due(run, x, 1 + 2 * in);
            for (int e = 3; e <= 4; e++) {
                Call.usable(e).due(run, x, in);
                Call.firstUse(e).due(run, x, in == 1 ? time : NONE);
            }
        }
    }

    /** "comes about in any number of such steps, and its time is at most 20": moves take no time. */
    private static void anyNumberOfMovesAtTimeTwenty() {
        TimedPair x = Sample.eighteen();
        x.edge(0, 15, 0, 2);
        x.edge(1, 4, 0, 4);
        x.guard(4, 0, 2, 7);
        x.edge(1, 9, 0, 0);
        x.edge(1, 14, 0, 0);
        x.edge(1, 15, 0, 0);
        x.guard(7, 0, 3, 7);
        for (int e = 3; e <= 6; e++) {
            Call.firstUse(e).due("moves at 20", x, 20);
        }
        for (int l = 1; l <= 3; l++) {
            Call.earliest(3 + 4 * l).due("moves at 20", x, 20);
            Call.atLeast(3 + 4 * l, 0, 2).due("moves at 20", x, 1);
            Call.atLeast(3 + 4 * l, 0, 3).due("no wait after 20", x, 0);
        }
        Call.firstUse(7).due("no wait after 20", x, NONE);
        Call.usable(7).due("no wait after 20", x, 0);
        x.guard(7, 0, 2, 7);
        Call.firstUse(7).due("moves at 20", x, 20);
    }

    /** "A PAIR is ... written as the first plus 4 times the second, 0 to 15" */
    private static void pairsAreWrittenAsTheFirstPlusFourTimesTheSecond() {
        for (int one = 0; one <= 3; one++) {
            for (int other = 0; other <= 3; other++) {
                TimedPair x = new TimedPair();
                x.edge(0, 4 * one, 0, 1);
                x.edge(1, 4 * other, 0, 3);
                for (int pair = 0; pair <= 15; pair++) {
                    int in = pair == 0 || pair == one + 4 * other ? 1 : 0;
                    String run = "locations " + one + " and " + other;
                    Call.reached(pair).due(run, x, in);
                    Call.earliest(pair).due(run, x, in == 1 ? 0 : NONE);
                    Call.atMost(pair, 0, 0).due(run, x, in);
                    Call.atLeast(pair, 1, 6).due(run, x, in);
                }
            }
        }
    }

    /** "a PLACE is a location l of process p, written as 4 * p + l, 0 to 7" */
    private static void placesAreWrittenAsFourTimesTheProcessPlusTheLocation() {
        for (int place = 0; place <= 7; place++) {
            for (int p = 0; p < 2; p++) {
                for (int l = 0; l <= 3; l++) {
                    TimedPair x = new TimedPair();
                    // Without any wait in location 0, what is said of that place is not seen.
                    silent(x, p, 4 * l, 0, 0, 0);
                    int pair = p == 0 ? l : 4 * l;
                    int free = place == 4 * p + l || place == 4 * (1 - p) ? 0 : 1;
                    String run = "location " + l + " of " + p + ", place " + place;
                    x.urgent(place, 1);
                    Call.atLeast(pair, 0, 1).due(run + " urgent", x, free);
                    x.urgent(place, 0);
                    Call.atLeast(pair, 0, 1).due(run + " urgent no more", x, 1);
                    x.bound(place, 1, 0);
                    Call.atLeast(pair, 1, 1).due(run + " with a bound", x, free);
                }
            }
        }
    }

    /** "No call ever throws." */
    private static void noCallEverThrows() {
        for (Supplier<TimedPair> sample : Sample.ALL) {
            for (Call call : callsWithAnyArguments()) {
                throwsNothing(call, sample.get());
            }
        }
    }

    private static List<Call> callsWithAnyArguments() {
        List<Call> calls = new ArrayList<>();
        for (int a : ANY) {
            calls.addAll(List.of(Call.drop(a), Call.reached(a), Call.earliest(a), Call.locations(a), Call.usable(a), Call.firstUse(a)));
            for (int b : ANY) {
                calls.add(Call.urgent(a, b));
                for (int c : ANY) {
                    calls.addAll(List.of(Call.bound(a, b, c), Call.atMost(a, b, c), Call.atLeast(a, b, c)));
                    for (int d : ANY) {
                        calls.addAll(List.of(Call.edge(a, b, c, d), Call.guard(a, b, c, d)));
                    }
                }
            }
        }
        return calls;
    }

    private static void throwsNothing(Call call, TimedPair x) {
        int thrown = 0;
        try {
            if (call.on(x) >= 0) {
                x.pairs();
            }
        } catch (RuntimeException | Error e) {
            thrown = 1;
        }
        Check.due(call.text() + ", how often it threw,", thrown, 0);
    }

    /** "A refused call answers the code named and changes nothing." */
    private static void refusedCallsChangeNothing() {
        Call[] wrong = {
            Call.edge(2, 4, 3, 0), Call.edge(0, 16, 0, 0), Call.edge(1, 12, 4, 0), Call.edge(0, 8, 0, 5),
            Call.bound(8, 0, 0), Call.bound(0, 2, 0), Call.bound(0, 0, 8), Call.bound(-1, 1, 0), Call.urgent(8, 1), Call.urgent(-1, 1),
            Call.reached(16), Call.earliest(-1), Call.atMost(0, 2, 0), Call.atLeast(0, 0, 7), Call.locations(2)
        };
        Call[] missing = {
            Call.guard(12, 0, 6, 0), Call.guard(-1, 1, 6, 0), Call.drop(12), Call.drop(-1), Call.usable(12), Call.firstUse(-1)
        };
        for (Supplier<TimedPair> sample : Sample.ALL) {
            for (Call call : wrong) {
                call.refused("refused", sample, BAD_ARG);
            }
            for (Call call : missing) {
                call.refused("refused", sample, NONE);
            }
        }
        Call.edge(1, 4, 3, 0).refused("refused", Sample::full, FULL);
    }
}
