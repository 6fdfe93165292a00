/** Where the tests look: just outside a range, at the ends of int, and at what could pass for a number inside. */
final class Edges {
    static final int MIN = Integer.MIN_VALUE;
    static final int MAX = Integer.MAX_VALUE;
    static final int[] NO_TRANSACTION = {-1, 4, -4, -2, 5, 7, 8, 32, 128, 256, 65536, MIN, MIN + 3, MAX, MAX - 3};
    static final int[] NO_KEY = {-1, 32, -32, -31, 33, 63, 64, 96, 256, 65536, MIN, MIN + 31, MAX, MAX - 31};
    static final int[] ANY_VALUE = {MIN, MAX, 0, -1, 1, MeldLog.GONE};

    private Edges() {
    }

    /** Numbers of no state: outside 0 to latest. */
    static int[] noState(int latest) {
        return new int[] {-1, latest + 1, -2, -5, -6, -7, -8, -latest - 1, latest + 2, latest + 5, latest + 6,
            latest + 7, latest + 8, latest + 256, latest + 65536, MIN, MIN + latest, MAX, MAX - 7 + latest % 8};
    }
}
