/** The document's draws, and states from which a wanted one comes. */
final class Draws {
    private static final int MOST = 10000000;

    private Draws() {
    }

    static int next(int state) {
        return (int) (1664525L * state + 1013904223L);
    }

    /** What a draw of 1000 from this state gives. */
    static int value(int state) {
        return (int) ((next(state) & 0xffffffffL) / 256 % 1000);
    }

    /** A state whose draw is this value, and which is then below 0, or is not. */
    static int stateFor(int value, boolean below) {
        for (int state = 1; state < MOST; state++) {
            if (value(state) == value && next(state) < 0 == below) {
                return state;
            }
        }
        throw new IllegalStateException("no state draws " + value);
    }

    /** A state whose first two draws are one below and one not below a limit. */
    static int stateForTwo(boolean firstBelow, boolean secondBelow, int limit) {
        for (int state = 1; state < MOST; state++) {
            if (value(state) < limit == firstBelow && value(next(state)) < limit == secondBelow) {
                return state;
            }
        }
        throw new IllegalStateException("no state draws so");
    }
}
