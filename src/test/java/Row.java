/** A fixed row of numbers that look random, so that every run of a test is the same. */
final class Row {
    private long seed;

    Row(long seed) {
        this.seed = seed;
    }

    int below(int bound) {
        seed = seed * 6364136223846793005L + 1442695040888963407L;
        return (int) ((seed >>> 33) % bound);
    }

    int oneOf(int[] numbers) {
        return numbers[below(numbers.length)];
    }
}
