import java.util.ArrayDeque;
import java.util.ArrayList;
import java.util.Arrays;
import java.util.List;

/** What the document asks for, reckoned with zones of real values: nothing shared with TimedPair. */
final class ZoneModel {
    private static final int BAD_ARG = -1;
    private static final int FULL = -2;
    private static final int NONE = -4;

    private static final class Edge {
        int p;
        int from;
        int to;
        int resets;
        int sign;
        int[] least = {0, 0};
        int[] greatest = {7, 7};

        boolean sends() {
            return sign == 1 || sign == 2;
        }

        boolean receives() {
            return sign == 3 || sign == 4;
        }

        int channel() {
            return sends() ? sign - 1 : sign - 3;
        }
    }

    private record Spot(int pair, Zone zone) {
    }

    private final List<Edge> all = new ArrayList<>();
    private final int[][] bounds = new int[8][];
    private final boolean[] urgents = new boolean[8];

    private final List<List<Zone>> zones = new ArrayList<>();
    private final List<Integer> uses = new ArrayList<>();
    private final ArrayDeque<Spot> open = new ArrayDeque<>();
    private boolean fresh = false;

    ZoneModel() {
        for (int place = 0; place < 8; place++) {
            bounds[place] = new int[] {7, 7};
        }
    }

    private static boolean outside(int n, int low, int high) {
        return n < low || n > high;
    }

    private boolean noEdge(int e) {
        return outside(e, 0, all.size() - 1);
    }

    int edge(int p, int ends, int resets, int sign) {
        if (outside(p, 0, 1) || outside(ends, 0, 15) || outside(resets, 0, 3) || outside(sign, 0, 4)) {
            return BAD_ARG;
        }
        if (all.size() == 12) {
            return FULL;
        }
        Edge edge = new Edge();
        edge.p = p;
        edge.from = ends % 4;
        edge.to = ends / 4;
        edge.resets = resets;
        edge.sign = sign;
        all.add(edge);
        fresh = false;
        return all.size() - 1;
    }

    int guard(int e, int c, int least, int greatest) {
        if (noEdge(e)) {
            return NONE;
        }
        if (outside(c, 0, 1) || outside(least, 0, 6) || outside(greatest, 0, 7)) {
            return BAD_ARG;
        }
        all.get(e).least[c] = least;
        all.get(e).greatest[c] = greatest;
        fresh = false;
        return 0;
    }

    int drop(int e) {
        if (noEdge(e)) {
            return NONE;
        }
        all.remove(e);
        fresh = false;
        return all.size();
    }

    int bound(int place, int c, int bound) {
        if (outside(place, 0, 7) || outside(c, 0, 1) || outside(bound, 0, 7)) {
            return BAD_ARG;
        }
        int before = bounds[place][c];
        bounds[place][c] = bound;
        fresh = false;
        return before;
    }

    int urgent(int place, int on) {
        if (outside(place, 0, 7)) {
            return BAD_ARG;
        }
        int before = urgents[place] ? 1 : 0;
        urgents[place] = on != 0;
        fresh = false;
        return before;
    }

    int edges() {
        return all.size();
    }

    int reached(int pair) {
        return outside(pair, 0, 15) ? BAD_ARG : zonesOf(pair).isEmpty() ? 0 : 1;
    }

    int earliest(int pair) {
        if (outside(pair, 0, 15)) {
            return BAD_ARG;
        }
        return zonesOf(pair).stream().mapToInt(z -> z.least(Zone.TIME)).min().orElse(NONE);
    }

    int atMost(int pair, int c, int v) {
        if (outside(pair, 0, 15) || outside(c, 0, 1) || outside(v, 0, 6)) {
            return BAD_ARG;
        }
        return zonesOf(pair).stream().anyMatch(z -> z.least(Zone.ofClock(c)) <= v) ? 1 : 0;
    }

    int atLeast(int pair, int c, int v) {
        if (outside(pair, 0, 15) || outside(c, 0, 1) || outside(v, 0, 6)) {
            return BAD_ARG;
        }
        return zonesOf(pair).stream().anyMatch(z -> z.greatest(Zone.ofClock(c)) >= v) ? 1 : 0;
    }

    int pairs() {
        int count = 0;
        for (int pair = 0; pair < 16; pair++) {
            count += reached(pair);
        }
        return count;
    }

    int locations(int p) {
        if (outside(p, 0, 1)) {
            return BAD_ARG;
        }
        int set = 0;
        for (int pair = 0; pair < 16; pair++) {
            if (reached(pair) == 1) {
                set |= 1 << (p == 0 ? pair % 4 : pair / 4);
            }
        }
        return set;
    }

    int usable(int e) {
        return noEdge(e) ? NONE : firstUse(e) == NONE ? 0 : 1;
    }

    int firstUse(int e) {
        if (noEdge(e)) {
            return NONE;
        }
        explore();
        return uses.get(e);
    }

    private List<Zone> zonesOf(int pair) {
        explore();
        return zones.get(pair);
    }

    private void explore() {
        if (fresh) {
            return;
        }
        fresh = true;
        zones.clear();
        uses.clear();
        for (int pair = 0; pair < 16; pair++) {
            zones.add(new ArrayList<>());
        }
        for (int e = 0; e < all.size(); e++) {
            uses.add(NONE);
        }
        enter(0, new Zone());
        while (!open.isEmpty()) {
            Spot spot = open.remove();
            // A greater zone found since then goes through all that this one would.
            if (zones.get(spot.pair).contains(spot.zone)) {
                leave(spot);
            }
        }
    }

    private void enter(int pair, Zone zone) {
        if (!urgents[pair % 4] && !urgents[4 + pair / 4]) {
            zone.letTimePass();
            keepBounds(pair, zone);
            zone.keepAtMost(Zone.TIME, 20);
        }
        for (Zone known : zones.get(pair)) {
            if (known.holds(zone)) {
                return;
            }
        }
        zones.get(pair).removeIf(zone::holds);
        zones.get(pair).add(zone);
        open.add(new Spot(pair, zone));
    }

    private void leave(Spot spot) {
        for (Edge edge : all) {
            if (edge.sign == 0) {
                move(spot, edge);
            }
            for (Edge other : all) {
                if (edge.sends() && other.receives() && edge.channel() == other.channel() && edge.p != other.p) {
                    move(spot, edge, other);
                }
            }
        }
    }

    private void move(Spot spot, Edge... taken) {
        int[] at = {spot.pair % 4, spot.pair / 4};
        Zone zone = new Zone(spot.zone);
        for (Edge edge : taken) {
            if (at[edge.p] != edge.from) {
                return;
            }
            for (int c = 0; c < 2; c++) {
                zone.keepAtLeast(Zone.ofClock(c), edge.least[c]);
                if (edge.greatest[c] < 7) {
                    zone.keepAtMost(Zone.ofClock(c), edge.greatest[c]);
                }
            }
        }
        if (zone.isEmpty()) {
            return;
        }
        for (Edge edge : taken) {
            at[edge.p] = edge.to;
            for (int c = 0; c < 2; c++) {
                if ((edge.resets >> c) % 2 == 1) {
                    zone.reset(Zone.ofClock(c));
                }
            }
        }
        int pair = at[0] + 4 * at[1];
        keepBounds(pair, zone);
        if (zone.isEmpty()) {
            return;
        }
        for (Edge edge : taken) {
            noteUse(edge, zone.least(Zone.TIME));
        }
        enter(pair, zone);
    }

    private void noteUse(Edge edge, int time) {
        int e = all.indexOf(edge);
        if (uses.get(e) == NONE || time < uses.get(e)) {
            uses.set(e, time);
        }
    }

    private void keepBounds(int pair, Zone zone) {
        for (int place : Arrays.asList(pair % 4, 4 + pair / 4)) {
            for (int c = 0; c < 2; c++) {
                if (bounds[place][c] < 7) {
                    zone.keepAtMost(Zone.ofClock(c), bounds[place][c]);
                }
            }
        }
    }
}
