import java.util.ArrayList;
import java.util.List;

/** Chains for the tests of edges, and what is looked at in the same way for many calls. */
final class Halls {
    private static final int[][] SIZES = {{1, 1}, {1, 12}, {2, 1}, {2, 12}, {3, 2}, {6, 1}, {6, 12}};

    interface Ask {
        long ask(ChanceHall hall, int value);
    }

    interface Reckon {
        long reckon(Oracle chain, int value);
    }

    private Halls() {
    }

    /** Chains of the least and the most states and slots, and between, with all kinds of leads, pays and colours. */
    static List<Oracle> chains() {
        List<Oracle> chains = new ArrayList<>();
        for (int[] size : SIZES) {
            chains.add(some(size[0], size[1], 31 * size[0] + size[1]));
        }
        return chains;
    }

    static Oracle some(int states, int slots, int number) {
        Numbers numbers = new Numbers(number);
        Oracle chain = new Oracle(states, slots);
        for (int state = 0; state < states; state++) {
            chain.pays[state] = numbers.between(-100000, 100000);
            chain.colours[state] = numbers.below(6);
            for (int slot = 0; slot < slots; slot++) {
                chain.goesTo[state][slot] = numbers.below(states);
            }
        }
        return chain;
    }

    static ChanceHall like(Oracle chain) {
        ChanceHall hall = new ChanceHall();
        hall.begin(chain.states, chain.slots);
        for (int state = 0; state < chain.states; state++) {
            hall.pay(state, chain.pays[state]);
            hall.colour(state, chain.colours[state]);
            for (int slot = 0; slot < chain.slots; slot++) {
                hall.lead(state, slot, chain.goesTo[state][slot]);
            }
        }
        return hall;
    }

    static ChanceHall staying(int states, int slots) {
        ChanceHall hall = new ChanceHall();
        hall.begin(states, slots);
        return hall;
    }

    static ChanceHall circle(int states, int slots) {
        ChanceHall hall = staying(states, slots);
        for (int state = 0; state < states; state++) {
            leadAll(hall, state, slots, (state + 1) % states);
        }
        return hall;
    }

    static void leadAll(ChanceHall hall, int state, int slots, int to) {
        for (int slot = 0; slot < slots; slot++) {
            hall.lead(state, slot, to);
        }
    }

    /** The least and the most state of chains of several sizes; the call bears a _ where the state stands. */
    static void eachState(String call, Ask ask, Reckon due) {
        for (Oracle chain : chains()) {
            dueFor(chain, call, 0, ask, due);
            dueFor(chain, call, chain.states - 1, ask, due);
        }
    }

    static void eachSlot(String call, Ask ask, Reckon due) {
        for (Oracle chain : chains()) {
            dueFor(chain, call, 0, ask, due);
            dueFor(chain, call, chain.slots - 1, ask, due);
        }
    }

    static void leastAndMost(String call, int least, int most, Ask ask, Reckon due) {
        for (Oracle chain : chains()) {
            dueFor(chain, call, least, ask, due);
            dueFor(chain, call, most, ask, due);
        }
    }

    private static void dueFor(Oracle chain, String call, int value, Ask ask, Reckon due) {
        String name = chain.states + " states, " + chain.slots + " slots: " + call.replace("_", "" + value);
        Check.due(name, ask.ask(like(chain), value), due.reckon(chain, value));
    }

    /** A state that is too small or too great is refused; it changes nothing. */
    static void noState(String call, Ask ask) {
        for (Oracle chain : chains()) {
            refuse(chain, call, 0, chain.states - 1, IndexOutOfBoundsException.class, ask);
        }
    }

    static void noSlot(String call, Ask ask) {
        for (Oracle chain : chains()) {
            refuse(chain, call, 0, chain.slots - 1, IndexOutOfBoundsException.class, ask);
        }
    }

    static void noArgument(String call, int least, int most, Ask ask) {
        for (Oracle chain : chains()) {
            refuse(chain, call, least, most, IllegalArgumentException.class, ask);
        }
    }

    private static void refuse(
            Oracle chain, String call, int least, int most, Class<? extends RuntimeException> due, Ask ask) {
        int[] values = {least - 1, most + 1, most + 100, Integer.MIN_VALUE, Integer.MAX_VALUE};
        for (int value : values) {
            refuseOne(chain, call.replace("_", "" + value), due, hall -> ask.ask(hall, value));
        }
    }

    interface Refused {
        void make(ChanceHall hall);
    }

    static void refuseOne(Oracle chain, String call, Class<? extends RuntimeException> due, Refused refused) {
        ChanceHall hall = like(chain);
        String name = chain.states + " states, " + chain.slots + " slots: " + call;
        Check.dueThrow(name, () -> refused.make(hall), due);
        lookAt(name + " refused", hall, chain);
    }

    /** All that a chain is, with the states and slots that are not there; it takes some 120 calls at most. */
    static void lookAt(String name, ChanceHall hall, Oracle chain) {
        Check.due(name + ": slots", hall.words(1), chain.slots);
        Check.dueIndex(name + ": one state too many", () -> hall.reach(chain.states));
        for (int state = 0; state < chain.states; state++) {
            Check.due(name + ": pay of " + state, hall.pay(state, chain.pays[state]), chain.pays[state]);
            Check.due(name + ": colour of " + state, hall.colour(state, chain.colours[state]), chain.colours[state]);
            for (int to = 0; to < chain.states; to++) {
                Check.due(name + ": weight " + state + ", " + to, hall.weight(state, to), chain.weight(state, to));
            }
            for (int slot = 0; slot < chain.slots; slot++) {
                int to = chain.goesTo[state][slot];
                Check.due(name + ": lead " + state + ", " + slot, hall.lead(state, slot, to), to);
            }
        }
    }

    /** There are as many ranks as states. */
    static int lastState(ChanceHall hall) {
        int last = 0;
        while (last < 5 && hall.ranked(last + 1) >= 0) {
            last++;
        }
        return last;
    }

    static int asNumber(boolean answer) {
        return answer ? 1 : 0;
    }
}
