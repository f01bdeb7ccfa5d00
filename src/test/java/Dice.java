/** A row of numbers that looks like chance, and is the same in every run of a test. */
final class Dice {
    private long state;

    Dice(long seed) {
        state = seed;
    }

    /** A number from 0 up to, but without, a bound. */
    int below(int bound) {
        state = state * 6364136223846793005L + 1442695040888963407L;
        return (int) ((state >>> 33) % bound);
    }

    boolean oneIn(int n) {
        return below(n) == 0;
    }

    String pick(String... choices) {
        return choices[below(choices.length)];
    }
}
