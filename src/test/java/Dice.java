/** Numbers that look thrown but are the same in every run. */
final class Dice {
    private long state;

    Dice(long seed) {
        state = seed;
    }

    /** A number from 0 to sides - 1. */
    int roll(int sides) {
        state = state * 6364136223846793005L + 1442695040888963407L;
        return (int) ((state >>> 33) % sides);
    }

    /** A number from lo to hi. */
    int between(int lo, int hi) {
        return lo + roll(hi - lo + 1);
    }

    int oneOf(int... numbers) {
        return numbers[roll(numbers.length)];
    }
}
