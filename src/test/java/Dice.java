/** Numbers that look thrown and are the same in each run of the tests. */
final class Dice {
    private long state = 20261119;

    /** A number from 0 to before the bound. */
    int below(int bound) {
        state = state * 6364136223846793005L + 1442695040888963407L;
        return (int) ((state >>> 33) % bound);
    }

    int oneOf(int... numbers) {
        return numbers[below(numbers.length)];
    }

    String oneOf(String... words) {
        return words[below(words.length)];
    }
}
