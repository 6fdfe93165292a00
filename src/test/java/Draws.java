/** A row of numbers that looks mixed but is fixed by its seed: the tests use no random source. */
final class Draws {
    private long state;

    Draws(int seed) {
        state = seed * 0x9E3779B97F4A7C15L + 1;
    }

    int any() {
        state = state * 6364136223846793005L + 1442695040888963407L;
        long mixed = state ^ state >>> 29;
        return (int) (mixed >>> 32);
    }

    int below(int bound) {
        return Integer.remainderUnsigned(any(), bound);
    }
}
