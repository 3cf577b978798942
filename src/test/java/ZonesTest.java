/** Every state there can be, and long runs of generated calls: each answer compared with that of ZoneModel. */
public final class ZonesTest {
    private static final int RUNS = 600;
    private static final int CALLS = 512;

    // p, ends and resets of silent edges, then least and greatest value of clock 0 and of clock 1: by
    // these every pair is come to with every two values of the clocks, with some of them very late.
    private static final int[][] EVERY = {
        {0, 4, 0, 0, 7, 0, 7},
        {0, 9, 0, 0, 7, 0, 7},
        {0, 14, 0, 0, 7, 0, 7},
        {1, 4, 2, 3, 4, 0, 7},
        {1, 9, 2, 5, 5, 0, 7},
        {1, 14, 2, 2, 4, 0, 7},
        {0, 15, 1, 0, 7, 0, 7},
        {0, 0, 2, 0, 7, 4, 7},
        {0, 1, 1, 0, 7, 0, 7},
    };

    // The same numbers in every run of the test, so that what fails once fails again.
    private long seed = 20261115;
    private int sharp;
    private TimedPair x;
    private ZoneModel model;
    private String run;
    private int calls;

    public static void main(String[] args) {
        ZonesTest test = new ZonesTest();
        for (int pair = 0; pair < 16; pair++) {
            test.everyState(pair);
        }
        for (int run = 0; run < RUNS; run++) {
            test.oneRun(run);
        }
        Check.finish();
    }

    private int below(int n) {
        seed = seed * 6364136223846793005L + 1442695040888963407L;
        return (int) ((seed >>> 33) % n);
    }

    /** A number from low to high, now and then one that is outside. */
    private int about(int low, int high) {
        switch (below(60)) {
            case 0:
                return low - 1;
            case 1:
                return high + 1;
            case 2:
                return below(2) == 0 ? Integer.MIN_VALUE : Integer.MAX_VALUE;
            default:
                return low + below(high - low + 1);
        }
    }

    private void begin(String name) {
        x = new TimedPair();
        model = new ZoneModel();
        run = name + ": ";
        calls = 0;
    }

    /** A joint move that asks for one pair and one value of each clock tells of a single state. */
    private void everyState(int pair) {
        begin("every state of pair " + pair);
        for (int e = 0; e < EVERY.length; e++) {
            int[] row = EVERY[e];
            edge(row[0], row[1], row[2], 0);
            guard(e, 0, row[3], row[4]);
            guard(e, 1, row[5], row[6]);
        }
        int send = EVERY.length;
        edge(0, 5 * (pair % 4), 0, 1);
        edge(1, 5 * (pair / 4), 0, 3);
        for (int one = 0; one <= 6; one++) {
            guard(send, 0, one, one);
            for (int other = 0; other <= 6; other++) {
                guard(send, 1, other, other);
                due("usable(" + send + ")", x.usable(send), 1);
                due("firstUse(" + send + ")", x.firstUse(send), model.firstUse(send));
            }
        }
    }

    private void oneRun(int number) {
        begin("run " + number);
        sharp = number % 4;
        for (int e = below(13); e > 0; e--) {
            change(0);
            change(2);
            change(2);
        }
        while (calls < CALLS - 70) {
            for (int i = below(4); i >= 0; i--) {
                change(below(8));
            }
            askAll();
        }
    }

    private void due(String call, int got, int want) {
        calls++;
        Check.due(run + "call " + calls + ", " + call, got, want);
    }

    private void change(int kind) {
        int place = about(0, 7);
        int c = about(0, 1);
        int bound = below(3) == 0 ? 7 : about(0, 7);
        int on = below(3) - 1;
        int e = about(0, Math.max(0, model.edges() - 1));
        if (kind < 2) {
            addEdge();
        } else if (kind < 5) {
            setGuard(e, c);
        } else if (kind == 5) {
            due("bound(" + place + ", " + c + ", " + bound + ")", x.bound(place, c, bound), model.bound(place, c, bound));
        } else if (kind == 6) {
            due("urgent(" + place + ", " + on + ")", x.urgent(place, on), model.urgent(place, on));
            // Urgent places stop most runs, so few are left so.
            int again = about(0, 7);
            due("urgent(" + again + ", 0)", x.urgent(again, 0), model.urgent(again, 0));
        } else if (below(2) == 0) {
            due("drop(" + e + ")", x.drop(e), model.drop(e));
        }
    }

    private void addEdge() {
        int p = about(0, 1);
        int ends = about(0, 15);
        int resets = about(0, 3);
        int sign = below(2) == 0 ? 0 : about(0, 4);
        edge(p, ends, resets, sign);
    }

    private void edge(int p, int ends, int resets, int sign) {
        due("edge(" + p + ", " + ends + ", " + resets + ", " + sign + ")",
            x.edge(p, ends, resets, sign), model.edge(p, ends, resets, sign));
    }

    private void setGuard(int e, int c) {
        int least = about(0, 6);
        int greatest = about(0, 7);
        if (sharp == 1) {
            greatest = least;
        } else if (sharp > 1 && greatest < least) {
            greatest = 7;
        }
        guard(e, c, least, greatest);
    }

    private void guard(int e, int c, int least, int greatest) {
        due("guard(" + e + ", " + c + ", " + least + ", " + greatest + ")",
            x.guard(e, c, least, greatest), model.guard(e, c, least, greatest));
    }

    private void askAll() {
        due("edges()", x.edges(), model.edges());
        due("pairs()", x.pairs(), model.pairs());
        for (int i = 0; i < 2; i++) {
            int p = about(0, 1);
            due("locations(" + p + ")", x.locations(p), model.locations(p));
        }
        for (int i = 0; i < 6; i++) {
            int pair = about(0, 15);
            int c = about(0, 1);
            int v = about(0, 6);
            String end = "(" + pair + ", " + c + ", " + v + ")";
            due("reached(" + pair + ")", x.reached(pair), model.reached(pair));
            due("earliest(" + pair + ")", x.earliest(pair), model.earliest(pair));
            due("atMost" + end, x.atMost(pair, c, v), model.atMost(pair, c, v));
            due("atLeast" + end, x.atLeast(pair, c, v), model.atLeast(pair, c, v));
        }
        for (int e = -1; e <= model.edges(); e++) {
            due("usable(" + e + ")", x.usable(e), model.usable(e));
            due("firstUse(" + e + ")", x.firstUse(e), model.firstUse(e));
        }
    }
}
