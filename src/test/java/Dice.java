/** Numbers that look random and are the same on every run and on every machine. */
final class Dice {
    private long state;

    Dice(int seed) {
        state = seed * 0x9E3779B97F4A7C15L + 1;
    }

    int any() {
        state = state * 6364136223846793005L + 1442695040888963407L;
        long mixed = (state ^ (state >>> 33)) * 0xFF51AFD7ED558CCDL;
        return (int) (mixed >>> 32);
    }

    /** From 0 up to, but not reaching, the bound. */
    int below(int bound) {
        return Math.floorMod(any(), bound);
    }

    /** From the first to the last, both reached. */
    int between(int first, int last) {
        return first + below(last - first + 1);
    }
}
