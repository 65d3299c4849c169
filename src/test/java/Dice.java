/** Numbers that look thrown, the same ones in every run. */
final class Dice {
    private long state;

    Dice(long seed) {
        state = seed * 0x9E3779B97F4A7C15L + 1;
    }

    int below(int n) {
        state = state * 6364136223846793005L + 1442695040888963407L;
        return (int) ((state >>> 33) % n);
    }

    boolean oneIn(int n) {
        return below(n) == 0;
    }

    /** One of 0 to n - 1 as a rule, now and then one beyond. */
    int about(int n) {
        int[] odd = {-1, n, n + 1, Integer.MAX_VALUE, Integer.MIN_VALUE, -n};
        return n <= 0 || oneIn(40) ? odd[below(odd.length)] : below(n);
    }
}
