import java.util.List;
import java.util.function.Supplier;

/** Objects for a test to begin with, and the comparison of two of them. */
final class Sample {
    /** No edge, some edges, 12 edges: and how many those are. */
    static final List<Supplier<TimedPair>> ALL = List.of(TimedPair::new, Sample::some, Sample::full);
    static final int[] EDGES = {0, 3, 12};

    // p, ends, resets and sign of each edge, then least and greatest value of clock 0 and of clock 1.
    private static final int[][] FULL = {
        {0, 4, 1, 0, 1, 3, 0, 7},
        {0, 8, 0, 0, 0, 7, 2, 5},
        {0, 13, 2, 0, 1, 2, 2, 6},
        {0, 14, 0, 1, 3, 7, 0, 6},
        {0, 3, 3, 4, 0, 6, 0, 4},
        {0, 5, 1, 0, 2, 2, 1, 7},
        {1, 4, 2, 3, 0, 6, 3, 6},
        {1, 9, 0, 0, 0, 7, 1, 4},
        {1, 14, 1, 0, 2, 6, 0, 7},
        {1, 1, 0, 2, 3, 7, 1, 3},
        {1, 8, 0, 0, 4, 4, 0, 7},
        {1, 15, 2, 0, 0, 5, 5, 6},
    };

    private Sample() {
    }

    /** Three edges of process 0, each with guards on both clocks that can be seen from outside. */
    static TimedPair some() {
        TimedPair x = new TimedPair();
        for (int e = 0; e < 3; e++) {
            x.edge(0, 4 * (e + 1), 0, 0);
            x.guard(e, 0, e + 1, 5);
            x.guard(e, 1, 2, e + 3);
            x.urgent(e + 1, 1);
        }
        x.bound(0, 0, 6);
        x.bound(4, 1, 5);
        x.bound(7, 1, 0);
        return x;
    }

    /** Twelve edges, all of them usable, of every sign. */
    static TimedPair full() {
        return fullWithout(-1);
    }

    /** The same without this one, which has never been there. */
    static TimedPair fullWithout(int left) {
        TimedPair x = new TimedPair();
        for (int i = 0; i < FULL.length; i++) {
            if (i != left) {
                int[] row = FULL[i];
                int e = x.edge(row[0], row[1], row[2], row[3]);
                x.guard(e, 0, row[4], row[5]);
                x.guard(e, 1, row[6], row[7]);
            }
        }
        x.bound(0, 0, 5);
        x.bound(2, 1, 6);
        x.bound(5, 1, 4);
        x.bound(7, 0, 6);
        x.urgent(6, 1);
        return x;
    }

    /**
     * Process 0 comes to location 1 by edge 1, at time 7 and not before, when clock c is above 6
     * and the other, reset at 6 by edge 0, is at 1.
     */
    static TimedPair seven(int c) {
        TimedPair x = new TimedPair();
        int other = 1 - c;
        x.edge(1, 0, 1 << other, 0);
        x.guard(0, other, 6, 6);
        x.edge(0, 4, 0, 0);
        x.guard(1, other, 1, 1);
        x.guard(1, c, 6, 7);
        return x;
    }

    /** Process 0 comes to location 3 by edges 0 to 2, at time 18 and not before, when clock 0 is at 0. */
    static TimedPair eighteen() {
        TimedPair x = new TimedPair();
        for (int l = 0; l < 3; l++) {
            x.edge(0, 4 * (l + 1) + l, 1, 0);
            x.guard(l, 0, 6, 7);
        }
        return x;
    }

    /** Asks both all that can be asked, then takes the bounds and the urgency away and asks again. */
    static void alike(String run, TimedPair x, TimedPair y) {
        sameAnswers(run, x, y);
        for (int pair = 0; pair < 16; pair++) {
            for (int c = 0; c < 2; c++) {
                // Not every value: with them all, an object would get more than its 512 calls.
                for (int v = 0; v <= 6; v += 3) {
                    same(run, Call.atMost(pair, c, v), x, y);
                    same(run, Call.atLeast(pair, c, v), x, y);
                }
            }
        }
        for (int place = 0; place < 8; place++) {
            same(run, Call.urgent(place, 0), x, y);
            same(run, Call.bound(place, 0, 7), x, y);
            same(run, Call.bound(place, 1, 7), x, y);
        }
        sameAnswers(run + ", without bounds", x, y);
    }

    static void sameAnswers(String run, TimedPair x, TimedPair y) {
        same(run, Call.edges(), x, y);
        same(run, Call.pairs(), x, y);
        same(run, Call.locations(0), x, y);
        same(run, Call.locations(1), x, y);
        for (int pair = 0; pair < 16; pair++) {
            same(run, Call.earliest(pair), x, y);
        }
        for (int e = 0; e <= 12; e++) {
            same(run, Call.firstUse(e), x, y);
        }
    }

    private static void same(String run, Call call, TimedPair x, TimedPair y) {
        call.due(run, x, call.on(y));
    }
}
