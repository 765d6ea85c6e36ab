/** Promises 1 to 7: the chain itself. */
public final class ChainTest {
    public static void main(String[] args) {
        aNewObject();
        begin();
        beginWrong();
        lead();
        swap();
        pay();
        colour();
        weight();
        Check.end();
    }

    private static void aNewObject() {
        ChanceHall hall = new ChanceHall();
        Check.due("new: weight(0, 0)", hall.weight(0, 0), 1);
        Check.due("new: words(12)", hall.words(12), 1);
        Check.due("new: lead(0, 0, 0)", hall.lead(0, 0, 0), 0);
        Check.due("new: pay(0, 0)", hall.pay(0, 0), 0);
        Check.due("new: colour(0, 0)", hall.colour(0, 0), 0);
        Check.dueIndex("new: weight(1, 0)", () -> hall.weight(1, 0));
        Check.dueIndex("new: lead(0, 1, 0)", () -> hall.lead(0, 1, 0));
        ChanceHall other = new ChanceHall();
        other.begin(2, 3);
        Check.due("another object changes nothing", hall.words(1), 1);
    }

    private static void begin() {
        for (int states = 1; states <= 6; states++) {
            for (int slots = 1; slots <= 12; slots++) {
                beginWith(states, slots);
            }
        }
    }

    private static void beginWith(int states, int slots) {
        ChanceHall hall = new ChanceHall();
        hall.begin(6, 12);
        for (int state = 0; state < 6; state++) {
            hall.pay(state, 7);
            hall.colour(state, 5);
            for (int slot = 0; slot < 12; slot++) {
                hall.lead(state, slot, 5 - state);
            }
        }
        hall.begin(states, slots);
        String chain = "begin(" + states + ", " + slots + "): ";
        Check.due(chain + "words(1)", hall.words(1), slots);
        for (int state = 0; state < states; state++) {
            int at = state;
            for (int to = 0; to < states; to++) {
                Check.due(chain + "weight", hall.weight(state, to), to == state ? slots : 0);
            }
            Check.due(chain + "pay", hall.pay(state, 1), 0);
            Check.due(chain + "colour", hall.colour(state, 1), 0);
            for (int slot = 0; slot < slots; slot++) {
                Check.due(chain + "lead", hall.lead(state, slot, 0), state);
            }
            Check.dueIndex(chain + "lead by no slot", () -> hall.lead(at, slots, 0));
        }
        Check.dueIndex(chain + "lead of no state", () -> hall.lead(states, 0, 0));
        Check.dueIndex(chain + "pay of no state", () -> hall.pay(states, 0));
        Check.dueIndex(chain + "colour of no state", () -> hall.colour(states, 0));
    }

    private static void beginWrong() {
        ChanceHall hall = new ChanceHall();
        hall.begin(3, 2);
        hall.lead(0, 1, 2);
        hall.pay(0, 9);
        hall.colour(0, 4);
        int[][] wrong = {
            {0, 1}, {7, 1}, {1, 0}, {1, 13}, {-1, 1}, {1, -1}, {0, 0}, {7, 13}, {0, 13}, {7, 0},
            {Integer.MIN_VALUE, 1}, {Integer.MAX_VALUE, 1}, {1, Integer.MIN_VALUE}, {1, Integer.MAX_VALUE}};
        for (int[] pair : wrong) {
            Check.dueArgument("begin(" + pair[0] + ", " + pair[1] + ")", () -> hall.begin(pair[0], pair[1]));
        }
        Check.due("behind a wrong begin: weight(0, 2)", hall.weight(0, 2), 1);
        Check.due("behind a wrong begin: words(1)", hall.words(1), 2);
        Check.due("behind a wrong begin: weight(2, 2)", hall.weight(2, 2), 2);
        Check.due("behind a wrong begin: pay", hall.pay(0, 0), 9);
        Check.due("behind a wrong begin: colour", hall.colour(0, 0), 4);
    }

    private static void lead() {
        ChanceHall hall = new ChanceHall();
        hall.begin(4, 3);
        Check.due("lead(1, 2, 3)", hall.lead(1, 2, 3), 1);
        Check.due("lead(1, 2, 0)", hall.lead(1, 2, 0), 3);
        Check.due("lead(1, 2, 0) again", hall.lead(1, 2, 0), 0);
        Check.due("lead(1, 2, 1)", hall.lead(1, 2, 1), 0);
        Check.due("weight(1, 1) behind it", hall.weight(1, 1), 3);
        hall.lead(3, 0, 2);
        Check.dueIndex("lead(4, 0, 0)", () -> hall.lead(4, 0, 0));
        Check.dueIndex("lead(-1, 0, 0)", () -> hall.lead(-1, 0, 0));
        Check.dueIndex("lead(0, 3, 0)", () -> hall.lead(0, 3, 0));
        Check.dueIndex("lead(0, -1, 0)", () -> hall.lead(0, -1, 0));
        Check.dueIndex("lead(3, 0, 4)", () -> hall.lead(3, 0, 4));
        Check.dueIndex("lead(3, 0, -1)", () -> hall.lead(3, 0, -1));
        Check.due("lead(3, 0, 3) behind wrong ones", hall.lead(3, 0, 3), 2);
    }

    private static void swap() {
        ChanceHall hall = new ChanceHall();
        hall.begin(3, 3);
        hall.lead(0, 0, 1);
        hall.lead(0, 1, 2);
        hall.swap(0, 0, 1);
        hall.swap(0, 2, 2);
        Check.due("swap: weight(0, 0)", hall.weight(0, 0), 1);
        Check.due("swap: weight(0, 1)", hall.weight(0, 1), 1);
        Check.due("swap: weight(0, 2)", hall.weight(0, 2), 1);
        Check.dueIndex("swap(3, 0, 1)", () -> hall.swap(3, 0, 1));
        Check.dueIndex("swap(-1, 0, 1)", () -> hall.swap(-1, 0, 1));
        Check.dueIndex("swap(0, 3, 1)", () -> hall.swap(0, 3, 1));
        Check.dueIndex("swap(0, -1, 1)", () -> hall.swap(0, -1, 1));
        Check.dueIndex("swap(0, 1, 3)", () -> hall.swap(0, 1, 3));
        Check.dueIndex("swap(0, 1, -1)", () -> hall.swap(0, 1, -1));
        Check.due("swap: slot 0", hall.lead(0, 0, 0), 2);
        Check.due("swap: slot 1", hall.lead(0, 1, 0), 1);
        Check.due("swap: slot 2", hall.lead(0, 2, 0), 0);
        Check.due("swap: another state", hall.lead(1, 0, 0), 1);
    }

    private static void pay() {
        ChanceHall hall = new ChanceHall();
        hall.begin(2, 1);
        Check.due("pay(1, 100000)", hall.pay(1, 100000), 0);
        Check.due("pay(1, -100000)", hall.pay(1, -100000), 100000);
        Check.dueArgument("pay(1, 100001)", () -> hall.pay(1, 100001));
        Check.dueArgument("pay(1, -100001)", () -> hall.pay(1, -100001));
        Check.dueArgument("pay(1, least)", () -> hall.pay(1, Integer.MIN_VALUE));
        Check.dueArgument("pay(1, most)", () -> hall.pay(1, Integer.MAX_VALUE));
        Check.dueIndex("pay(2, 0)", () -> hall.pay(2, 0));
        Check.dueIndex("pay(-1, 0)", () -> hall.pay(-1, 0));
        Check.dueIndex("pay(2, 100001)", () -> hall.pay(2, 100001));
        Check.due("pay(1, 5) behind wrong ones", hall.pay(1, 5), -100000);
        Check.due("pay(0, 5)", hall.pay(0, 5), 0);
    }

    private static void colour() {
        ChanceHall hall = new ChanceHall();
        hall.begin(2, 1);
        Check.due("colour(1, 5)", hall.colour(1, 5), 0);
        Check.due("colour(1, 0)", hall.colour(1, 0), 5);
        Check.due("colour(1, 3)", hall.colour(1, 3), 0);
        Check.dueArgument("colour(1, 6)", () -> hall.colour(1, 6));
        Check.dueArgument("colour(1, -1)", () -> hall.colour(1, -1));
        Check.dueIndex("colour(2, 0)", () -> hall.colour(2, 0));
        Check.dueIndex("colour(-1, 0)", () -> hall.colour(-1, 0));
        Check.dueIndex("colour(-1, 6)", () -> hall.colour(-1, 6));
        Check.due("colour(1, 1) behind wrong ones", hall.colour(1, 1), 3);
        Check.due("colour(0, 1)", hall.colour(0, 1), 0);
    }

    private static void weight() {
        ChanceHall hall = new ChanceHall();
        hall.begin(6, 12);
        for (int slot = 0; slot < 7; slot++) {
            hall.lead(5, slot, 2);
        }
        Check.due("weight(5, 2)", hall.weight(5, 2), 7);
        Check.due("weight(5, 5)", hall.weight(5, 5), 5);
        Check.due("weight(5, 0)", hall.weight(5, 0), 0);
        Check.due("weight(2, 5)", hall.weight(2, 5), 0);
        hall.lead(5, 0, 0);
        Check.due("weight(5, 2) with one slot fewer", hall.weight(5, 2), 6);
        Check.due("weight(5, 0) with one slot more", hall.weight(5, 0), 1);
        Check.dueIndex("weight(6, 0)", () -> hall.weight(6, 0));
        Check.dueIndex("weight(0, 6)", () -> hall.weight(0, 6));
        Check.dueIndex("weight(-1, 0)", () -> hall.weight(-1, 0));
        Check.dueIndex("weight(0, -1)", () -> hall.weight(0, -1));
    }
}
