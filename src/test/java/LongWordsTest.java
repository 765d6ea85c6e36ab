/** Words of up to 12 steps and 12 slots, against counts that can't wrap around: promises 8, 9, 11 to 15, 26 and 27. */
public final class LongWordsTest {
    private static final int CHAINS = 60;

    private final Numbers numbers;
    private final Oracle chain;
    private final LongOracle counted;
    private final ChanceHall hall;
    private final String name;

    private LongWordsTest(int number) {
        numbers = new Numbers(number);
        int states = number % 3 == 0 ? 6 : 1 + number % 6;
        int slots = number % 4 == 0 ? 12 : 1 + number % 12;
        chain = Halls.some(states, slots, number);
        if (number % 2 == 0) {
            stayMostly();
        }
        counted = new LongOracle(chain);
        hall = Halls.like(chain);
        name = "chain " + number + " of " + states + " states and " + slots + " slots: ";
    }

    public static void main(String[] args) {
        for (int number = 0; number < CHAINS; number++) {
            new LongWordsTest(number).check();
        }
        Check.end();
    }

    /** Else nearly all would fall together, be mixed and stop in the same way. */
    private void stayMostly() {
        for (int state = 0; state < chain.states; state++) {
            for (int slot = 1; slot < chain.slots; slot++) {
                chain.goesTo[state][slot] = state;
            }
        }
    }

    private void check() {
        int longest = numbers.below(3) == 0 ? 11 : 12;
        int from = numbers.below(chain.states);
        for (int to = 0; to < chain.states; to++) {
            String pair = "(" + from + ", " + to + ", " + longest + ")";
            Check.due(name + "law" + pair, hall.law(from, longest, to), counted.law(from, longest, to));
            Check.due(name + "hits" + pair, hall.hits(from, longest, to), counted.hits(from, longest, to));
            Check.due(name + "distance" + pair, hall.distance(from, to, longest), counted.distance(from, to, longest));
            Check.due(name + "apart" + pair, hall.apart(from, to, longest), counted.apart(from, to, longest));
            Check.due(name + "together" + pair, hall.together(longest, to), counted.together(longest, to));
        }
        for (int thousandths : new int[] {0, 1, numbers.below(1001), numbers.below(1001), 999, 1000}) {
            Check.due(name + "mixing(" + thousandths + ")", hall.mixing(thousandths), counted.mixing(thousandths));
        }
        for (int steps = 0; steps <= 12; steps++) {
            Check.due(name + "best(" + from + ", " + steps + ")", hall.best(from, steps), counted.best(from, steps));
            Check.due(name + "stops(" + from + ", " + steps + ")", hall.stops(from, steps), counted.stops(from, steps));
        }
    }
}
