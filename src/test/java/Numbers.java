/** A row of numbers that is the same each time; not the library's, so that it stays so. */
final class Numbers {
    private long state;

    Numbers(long first) {
        state = first;
    }

    /** The next one, 0 .. bound - 1. */
    int next(int bound) {
        state = state * 6364136223846793005L + 1442695040888963407L;
        return (int) ((state >>> 33) % bound);
    }

    boolean isOneOf(int bound) {
        return next(bound) == 0;
    }
}
