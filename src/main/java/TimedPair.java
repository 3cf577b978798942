/** Two processes with clocks: which places they come to, and how early. */
public final class TimedPair {
    public static final int BAD_ARG = -1;
    public static final int FULL = -2;
    public static final int NONE = -4;

    private static final int MOST_EDGES = 12;
    private static final int PAIRS = 16;
    private static final int PLACES = 8;
    private static final int EDGE_CLOCKS = 24;
    private static final int PLACE_CLOCKS = 16;
    private static final int LAST_TIME = 20;
    private static final int GREATEST_VALUE = 6;

    // Stands for "no bound" and "no greatest value", and for every clock above 6: nothing that
    // the document asks of a clock tells such values apart. So a plain comparison serves for all.
    private static final int UNBOUNDED = 7;

    // A state is held as one number: 2 bits for each location (together the pair), then 3 bits
    // for each clock.
    private static final int STATES = 1024;
    private static final int LOCATION_BITS = 2;
    private static final int LOCATION_MASK = 3;
    private static final int PAIR_MASK = 15;
    private static final int CLOCKS_SHIFT = 4;
    private static final int CLOCK_BITS = 3;
    private static final int CLOCK_MASK = 7;

    private int edgeCount = 0;
    private final int[] process = new int[MOST_EDGES];
    private final int[] source = new int[MOST_EDGES];
    private final int[] target = new int[MOST_EDGES];
    private final int[] resetSet = new int[MOST_EDGES];
    private final int[] edgeSign = new int[MOST_EDGES];
    // What is said for clock c stands at 2 * edge + c, or 2 * place + c.
    private final int[] leastValue = new int[EDGE_CLOCKS];
    private final int[] greatestValue = new int[EDGE_CLOCKS];
    private final int[] placeBound = new int[PLACE_CLOCKS];
    private final boolean[] placeUrgent = new boolean[PLACES];

    // What the last exploration found: the least time of each state and of each edge's use (or
    // NONE), and the states in the order of their least times.
    private int foundCount = 0;
    private final int[] found = new int[STATES];
    private final int[] foundTime = new int[STATES];
    private final int[] useTime = new int[MOST_EDGES];

    public TimedPair() {
        for (int i = 0; i < PLACE_CLOCKS; i++) {
            placeBound[i] = UNBOUNDED;
        }
    }

    public int edge(int p, int ends, int resets, int sign) {
        if (!isBit(p) || ends < 0 || ends > 15 || resets < 0 || resets > 3 || sign < 0 || sign > 4) {
            return BAD_ARG;
        }
        if (edgeCount >= MOST_EDGES) {
            return FULL;
        }
        int e = edgeCount;
        process[e] = p;
        source[e] = ends & LOCATION_MASK;
        target[e] = ends / 4;
        resetSet[e] = resets;
        edgeSign[e] = sign;
        for (int c = 0; c < 2; c++) {
            leastValue[2 * e + c] = 0;
            greatestValue[2 * e + c] = UNBOUNDED;
        }
        edgeCount++;
        return e;
    }

    public int guard(int e, int c, int least, int greatest) {
        if (!isEdge(e)) {
            return NONE;
        }
        if (!isBit(c) || !isValue(least) || !isValueOrUnbounded(greatest)) {
            return BAD_ARG;
        }
        leastValue[2 * e + c] = least;
        greatestValue[2 * e + c] = greatest;
        return 0;
    }

    public int drop(int e) {
        if (!isEdge(e)) {
            return NONE;
        }
        edgeCount--;
        for (int i = e; i < edgeCount; i++) {
            takeFromNext(i);
        }
        return edgeCount;
    }

    public int bound(int place, int c, int bound) {
        if (!isPlace(place) || !isBit(c) || !isValueOrUnbounded(bound)) {
            return BAD_ARG;
        }
        int before = placeBound[2 * place + c];
        placeBound[2 * place + c] = bound;
        return before;
    }

    public int urgent(int place, int on) {
        if (!isPlace(place)) {
            return BAD_ARG;
        }
        int before = placeUrgent[place] ? 1 : 0;
        placeUrgent[place] = on != 0;
        return before;
    }

    public int edges() {
        return edgeCount;
    }

    public int reached(int pair) {
        if (!isPair(pair)) {
            return BAD_ARG;
        }
        explore();
        return leastTime(pair) == NONE ? 0 : 1;
    }

    public int earliest(int pair) {
        if (!isPair(pair)) {
            return BAD_ARG;
        }
        explore();
        return leastTime(pair);
    }

    public int atMost(int pair, int c, int v) {
        if (!isPair(pair) || !isBit(c) || !isValue(v)) {
            return BAD_ARG;
        }
        explore();
        return holdsBetween(pair, c, 0, v) ? 1 : 0;
    }

    public int atLeast(int pair, int c, int v) {
        if (!isPair(pair) || !isBit(c) || !isValue(v)) {
            return BAD_ARG;
        }
        explore();
        return holdsBetween(pair, c, v, UNBOUNDED) ? 1 : 0;
    }

    public int pairs() {
        explore();
        int count = 0;
        for (int pair = 0; pair < PAIRS; pair++) {
            if (leastTime(pair) != NONE) {
                count++;
            }
        }
        return count;
    }

    public int locations(int p) {
        if (!isBit(p)) {
            return BAD_ARG;
        }
        explore();
        int set = 0;
        for (int i = 0; i < foundCount; i++) {
            set |= 1 << location(found[i], p);
        }
        return set;
    }

    public int usable(int e) {
        if (!isEdge(e)) {
            return NONE;
        }
        explore();
        return useTime[e] == NONE ? 0 : 1;
    }

    public int firstUse(int e) {
        if (!isEdge(e)) {
            return NONE;
        }
        explore();
        return useTime[e];
    }

    private boolean isBit(int n) {
        return n == 0 || n == 1;
    }

    private boolean isValue(int v) {
        return v >= 0 && v <= GREATEST_VALUE;
    }

    private boolean isValueOrUnbounded(int v) {
        return v >= 0 && v <= UNBOUNDED;
    }

    private boolean isEdge(int e) {
        return e >= 0 && e < edgeCount;
    }

    private boolean isPlace(int place) {
        return place >= 0 && place < PLACES;
    }

    private boolean isPair(int pair) {
        return pair >= 0 && pair < PAIRS;
    }

    private void takeFromNext(int e) {
        int next = e + 1;
        process[e] = process[next];
        source[e] = source[next];
        target[e] = target[next];
        resetSet[e] = resetSet[next];
        edgeSign[e] = edgeSign[next];
        for (int c = 0; c < 2; c++) {
            leastValue[2 * e + c] = leastValue[2 * next + c];
            greatestValue[2 * e + c] = greatestValue[2 * next + c];
        }
    }

    /**
     * Finds every state that is reached, with its least time. Everything asked of clocks and
     * time is a whole number that may be met exactly, so a run through real times stays a run
     * when its times are all rounded at one same fraction: steps of one are enough. And what can
     * be done from a state can be done from it at an earlier time, so its least time is enough.
     */
    private void explore() {
        forget();
        note(0, 0);
        int first = 0;
        for (int time = 0; time <= LAST_TIME; time++) {
            // A move takes no time, so what it leads to is gone through in this same loop.
            for (int i = first; i < STATES && i < foundCount; i++) {
                moveFrom(found[i], time);
            }
            int end = foundCount;
            for (int i = first; i < end && time < LAST_TIME; i++) {
                waitFrom(found[i], time);
            }
            first = end;
        }
    }

    private void forget() {
        foundCount = 0;
        for (int state = 0; state < STATES; state++) {
            foundTime[state] = NONE;
        }
        for (int e = 0; e < MOST_EDGES; e++) {
            useTime[e] = NONE;
        }
    }

    private void note(int state, int time) {
        // A state is noted only once, so there is always room; this shows that the index fits.
        if (foundTime[state] == NONE && foundCount < STATES) {
            foundTime[state] = time;
            found[foundCount] = state;
            foundCount++;
        }
    }

    private void noteUse(int e, int time) {
        if (useTime[e] == NONE) {
            useTime[e] = time;
        }
    }

    private void moveFrom(int state, int time) {
        for (int e = 0; e < edgeCount; e++) {
            for (int f = 0; f < edgeCount; f++) {
                if (isMove(e, f) && allows(state, e) && allows(state, f)) {
                    moveBy(state, e, f, time);
                }
            }
        }
    }

    /** A silent move is written as a move by e and e, a joint one with the edge of process 0 first. */
    private boolean isMove(int e, int f) {
        if (e == f) {
            return edgeSign[e] == 0;
        }
        if (process[e] != 0 || process[f] != 1 || edgeSign[e] == 0 || edgeSign[f] == 0) {
            return false;
        }
        // Sending and receiving on one channel are two signs apart.
        return edgeSign[e] - edgeSign[f] == 2 || edgeSign[f] - edgeSign[e] == 2;
    }

    private boolean allows(int state, int e) {
        if (location(state, process[e]) != source[e]) {
            return false;
        }
        for (int c = 0; c < 2; c++) {
            int value = clock(state, c);
            if (value < leastValue[2 * e + c] || value > greatestValue[2 * e + c]) {
                return false;
            }
        }
        return true;
    }

    private void moveBy(int state, int e, int f, int time) {
        int half = follow(state, e);
        int after = follow(half, f);
        if (keepsBounds(after)) {
            noteUse(e, time);
            noteUse(f, time);
            note(after, time);
        }
    }

    private int follow(int state, int e) {
        int shift = LOCATION_BITS * process[e];
        int after = (state & ~(LOCATION_MASK << shift)) | (target[e] << shift);
        for (int c = 0; c < 2; c++) {
            if ((resetSet[e] >> c & 1) == 1) {
                after = withClock(after, c, 0);
            }
        }
        return after;
    }

    private void waitFrom(int state, int time) {
        for (int p = 0; p < 2; p++) {
            if (placeUrgent[4 * p + location(state, p)]) {
                return;
            }
        }
        int after = state;
        for (int c = 0; c < 2; c++) {
            int value = clock(state, c);
            after = withClock(after, c, value < UNBOUNDED ? value + 1 : UNBOUNDED);
        }
        if (keepsBounds(after)) {
            note(after, time + 1);
        }
    }

    private boolean keepsBounds(int state) {
        for (int p = 0; p < 2; p++) {
            int place = 4 * p + location(state, p);
            for (int c = 0; c < 2; c++) {
                if (clock(state, c) > placeBound[2 * place + c]) {
                    return false;
                }
            }
        }
        return true;
    }

    private int location(int state, int p) {
        return state >> (LOCATION_BITS * p) & LOCATION_MASK;
    }

    private int clock(int state, int c) {
        return state >> (CLOCKS_SHIFT + CLOCK_BITS * c) & CLOCK_MASK;
    }

    private int withClock(int state, int c, int value) {
        int shift = CLOCKS_SHIFT + CLOCK_BITS * c;
        return (state & ~(CLOCK_MASK << shift)) | (value << shift);
    }

    private int leastTime(int pair) {
        for (int i = 0; i < foundCount; i++) {
            if ((found[i] & PAIR_MASK) == pair) {
                return foundTime[found[i]];
            }
        }
        return NONE;
    }

    private boolean holdsBetween(int pair, int c, int low, int high) {
        for (int i = 0; i < foundCount; i++) {
            int value = clock(found[i], c);
            if ((found[i] & PAIR_MASK) == pair && value >= low && value <= high) {
                return true;
            }
        }
        return false;
    }
}
