/** Numbers that look mixed and are the same in each run. */
final class Numbers {
    private long state;

    Numbers(long start) {
        state = start;
    }

    int below(int bound) {
        state = state * 6364136223846793005L + 1442695040888963407L;
        return (int) ((state >>> 33) % bound);
    }

    int between(int least, int most) {
        return least + below(most - least + 1);
    }
}
