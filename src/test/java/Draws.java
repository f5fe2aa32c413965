/** Draws for the tests, always the same for a seed. */
final class Draws {
    private long state;

    Draws(long seed) {
        state = seed;
    }

    /** A number from 0 up to below the bound. */
    int below(int bound) {
        state = state * 6364136223846793005L + 1442695040888963407L;
        return (int) ((state >>> 33) % bound);
    }

    boolean oneOf(int many) {
        return below(many) == 0;
    }

    /** Mostly from least to most; else just outside, or far away. */
    int about(int least, int most) {
        if (!oneOf(25)) {
            return least + below(most - least + 1);
        }
        int[] wild = {least - 1, most + 1, Integer.MIN_VALUE, Integer.MAX_VALUE, -1, 0, most + 37};
        return wild[below(wild.length)];
    }
}
