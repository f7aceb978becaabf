/** Numbers that look thrown, but are the same in each run of the tests. */
final class Dice {
    private long state;

    Dice(long seed) {
        state = seed * 0x9E3779B97F4A7C15L + 1;
    }

    /** From 0 to below a bound. */
    int below(int bound) {
        state = state * 6364136223846793005L + 1442695040888963407L;
        return (int) Math.floorMod(state >>> 33, (long) bound);
    }

    int between(int least, int most) {
        return least + below(most - least + 1);
    }

    boolean oneIn(int n) {
        return below(n) == 0;
    }

    /** Mostly from 0 to most, sometimes a bit or far out of it. */
    int around(int most) {
        if (!oneIn(12)) {
            return between(0, most);
        }
        int[] odd = {-1, most + 1, -2, most + 2, Integer.MIN_VALUE, Integer.MAX_VALUE};
        return odd[below(odd.length)];
    }
}
