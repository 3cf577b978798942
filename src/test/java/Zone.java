/**
 * A set of real values for the two clocks and the time, as greatest differences between any two of
 * them: entry (i, j) is the greatest value of variable i less variable j, and variable ZERO is 0.
 */
final class Zone {
    static final int ZERO = 0;
    static final int TIME = 3;
    private static final int SIZE = 4;
    private static final int FREE = 1000000;

    private final int[] most = new int[SIZE * SIZE];

    /** All values are 0. */
    Zone() {
    }

    Zone(Zone other) {
        System.arraycopy(other.most, 0, most, 0, SIZE * SIZE);
    }

    static int ofClock(int c) {
        return 1 + c;
    }

    int least(int variable) {
        return -most[ZERO * SIZE + variable];
    }

    int greatest(int variable) {
        return most[variable * SIZE + ZERO];
    }

    void keepDifference(int i, int j, int greatest) {
        if (greatest < most[i * SIZE + j]) {
            most[i * SIZE + j] = greatest;
            tighten();
        }
    }

    void keepAtMost(int variable, int value) {
        keepDifference(variable, ZERO, value);
    }

    void keepAtLeast(int variable, int value) {
        keepDifference(ZERO, variable, -value);
    }

    void letTimePass() {
        for (int i = 1; i < SIZE; i++) {
            most[i * SIZE + ZERO] = FREE;
        }
    }

    void reset(int variable) {
        for (int j = 0; j < SIZE; j++) {
            most[variable * SIZE + j] = most[ZERO * SIZE + j];
            most[j * SIZE + variable] = most[j * SIZE + ZERO];
        }
        most[variable * SIZE + variable] = 0;
    }

    boolean isEmpty() {
        for (int i = 0; i < SIZE; i++) {
            if (most[i * SIZE + i] < 0) {
                return true;
            }
        }
        return false;
    }

    boolean holds(Zone other) {
        for (int k = 0; k < SIZE * SIZE; k++) {
            if (other.most[k] > most[k]) {
                return false;
            }
        }
        return true;
    }

    private void tighten() {
        for (int k = 0; k < SIZE; k++) {
            for (int i = 0; i < SIZE; i++) {
                for (int j = 0; j < SIZE; j++) {
                    int through = most[i * SIZE + k] + most[k * SIZE + j];
                    most[i * SIZE + j] = Math.min(most[i * SIZE + j], through);
                }
            }
        }
    }
}
