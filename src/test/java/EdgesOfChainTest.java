/** Promises 1 to 7: each sentence that names an edge has a test of its own. */
public final class EdgesOfChainTest {
    private static final int MOST_PAY = 100000;

    public static void main(String[] args) {
        Edges edges = new Edges();
        edges.test(1, "Opens the hall with a chain of one state and one slot.", EdgesOfChainTest::aNewObject);
        testBegin(edges);
        testLeads(edges);
        testPays(edges);
        edges.test(7, "- `state`: a state", EdgesOfChainTest::statesOfWeight);
        edges.test(7, "- `to`: a state", EdgesOfChainTest::statesOfWeightTo);
        edges.test(7, "Returns how many slots.", EdgesOfChainTest::weightsFullAndEmpty);
        edges.test(7, "Throws `IndexOutOfBoundsException` if there is no such state, of either",
            EdgesOfChainTest::noWeight);
        edges.endOf(1, 7);
        Check.end();
    }

    private static void testBegin(Edges edges) {
        edges.test(2, "Begins a chain, in place of the one that there is: with pays and colours 0, each state going on "
            + "to itself.", EdgesOfChainTest::beginsInPlace);
        edges.test(2, "- `states`: 1 to 6", EdgesOfChainTest::statesOfBegin);
        edges.test(2, "- `slots`: 1 to 12", EdgesOfChainTest::slotsOfBegin);
        edges.test(2, "Throws `IllegalArgumentException` if states or slots is out of range",
            EdgesOfChainTest::noBegin);
    }

    private static void testLeads(Edges edges) {
        edges.test(3, "- `state`: a state", EdgesOfChainTest::statesOfLead);
        edges.test(3, "- `slot`: a slot", EdgesOfChainTest::slotsOfLead);
        edges.test(3, "- `to`: a state", EdgesOfChainTest::statesOfLeadTo);
        edges.test(3, "Returns where it went on by that.", EdgesOfChainTest::leadsToTheSame);
        edges.test(3, "Throws `IndexOutOfBoundsException` if there is no such state, of either, or slot",
            EdgesOfChainTest::noLead);
        edges.test(4, "- `state`: a state", EdgesOfChainTest::statesOfSwap);
        edges.test(4, "- `slot`: a slot", EdgesOfChainTest::slotsOfSwap);
        edges.test(4, "- `other`: a slot", EdgesOfChainTest::othersOfSwap);
        edges.test(4, "Exchanges where two slots of a state lead; weights stay.", EdgesOfChainTest::swapsWithItself);
        edges.test(4, "Throws `IndexOutOfBoundsException` if there is no such state or slot", EdgesOfChainTest::noSwap);
    }

    private static void testPays(Edges edges) {
        edges.test(5, "- `state`: a state", EdgesOfChainTest::statesOfPay);
        edges.test(5, "- `pay`: -100000 to 100000", EdgesOfChainTest::paysOfPay);
        edges.test(5, "Throws `IndexOutOfBoundsException` if there is no such state", EdgesOfChainTest::noStateOfPay);
        edges.test(5, "Throws `IllegalArgumentException` if pay is out of range", EdgesOfChainTest::noPay);
        edges.test(6, "- `state`: a state", EdgesOfChainTest::statesOfColour);
        edges.test(6, "- `colour`: 0 to 5", EdgesOfChainTest::coloursOfColour);
        edges.test(6, "Throws `IndexOutOfBoundsException` if there is no such state",
            EdgesOfChainTest::noStateOfColour);
        edges.test(6, "Throws `IllegalArgumentException` if colour is out of range", EdgesOfChainTest::noColour);
    }

    private static void aNewObject() {
        Halls.lookAt("new", new ChanceHall(), new Oracle(1, 1));
        ChanceHall hall = new ChanceHall();
        Check.dueIndex("new: state 1", () -> hall.weight(1, 0));
        Check.dueIndex("new: slot 1", () -> hall.swap(0, 0, 1));
        Check.due("new: law(0, 12, 0)", hall.law(0, 12, 0), 1);
        Check.due("new: together(0, 0)", hall.together(0, 0), 1);
        Check.due("new: closed()", hall.closed(), 1);
        Check.due("new: rest(-1)", hall.rest(-1), 1);
        Check.due("new: draw(0)", hall.draw(0), 0);
        Check.due("new: isFair()", hall.isFair(), true);
    }

    /** A chain of other size goes between: what was in states and slots that it has not must not come back. */
    private static void beginsInPlace() {
        for (Oracle chain : Halls.chains()) {
            ChanceHall hall = Halls.like(Halls.some(6, 12, 5));
            hall.begin(chain.states, chain.slots);
            Halls.lookAt("begun", hall, new Oracle(chain.states, chain.slots));
            hall.begin(6, 12);
            Halls.lookAt("begun again", hall, new Oracle(6, 12));
            Check.due("begun again: isFair()", hall.isFair(), true);
            Check.due("begun again: isLumped()", hall.isLumped(), true);
        }
        ChanceHall same = Halls.like(Halls.some(3, 2, 5));
        same.begin(3, 2);
        Halls.lookAt("begun with the same size", same, new Oracle(3, 2));
        countsBeginAnew();
    }

    /** What was counted for the chain of before must not show, be it of more states or of fewer. */
    private static void countsBeginAnew() {
        for (Oracle before : Halls.chains()) {
            for (Oracle chain : Halls.chains()) {
                ChanceHall hall = Halls.like(before);
                String name = before.states + " states ahead of " + chain.states + ": ";
                countAll(hall, before.states - 1);
                begin(hall, chain.states, chain.slots);
                ChanceHall fresh = Halls.staying(chain.states, chain.slots);
                Check.due(name + "counts", countAll(hall, chain.states - 1), countAll(fresh, chain.states - 1));
                Halls.leadAll(hall, chain.states - 1, chain.slots, 0);
                Halls.leadAll(fresh, chain.states - 1, chain.slots, 0);
                Check.due(name + "counts of some leads", countAll(hall, 0), countAll(fresh, 0));
            }
        }
    }

    private static long countAll(ChanceHall hall, int state) {
        long sum = hall.law(state, 12, 0);
        sum = 31 * sum + hall.distance(0, state, 12);
        sum = 31 * sum + hall.mixing(0);
        sum = 31 * sum + hall.apart(0, state, 12);
        sum = 31 * sum + hall.together(12, state);
        sum = 31 * sum + hall.together(12, 0);
        sum = 31 * sum + hall.hits(state, 12, 0);
        sum = 31 * sum + hall.rest(state);
        sum = 31 * sum + hall.rest(-1);
        sum = 31 * sum + hall.ranked(0);
        sum = 31 * sum + hall.draw(0);
        return 31 * sum + hall.best(state, 12);
    }

    private static void statesOfBegin() {
        for (int states = 1; states <= 6; states++) {
            Halls.lookAt("begin(" + states + ", 2)", Halls.staying(states, 2), new Oracle(states, 2));
        }
    }

    private static void slotsOfBegin() {
        for (int slots = 1; slots <= 12; slots++) {
            Halls.lookAt("begin(2, " + slots + ")", Halls.staying(2, slots), new Oracle(2, slots));
        }
    }

    private static void noBegin() {
        Halls.noArgument("begin(_, 1)", 1, 6, (hall, states) -> begin(hall, states, 1));
        Halls.noArgument("begin(_, 12)", 1, 6, (hall, states) -> begin(hall, states, 12));
        Halls.noArgument("begin(1, _)", 1, 12, (hall, slots) -> begin(hall, 1, slots));
        Halls.noArgument("begin(6, _)", 1, 12, (hall, slots) -> begin(hall, 6, slots));
        Halls.noArgument("begin(_, 13)", 1, 6, (hall, states) -> begin(hall, states, 13));
        Halls.noArgument("begin(0, _)", 1, 12, (hall, slots) -> begin(hall, 0, slots));
    }

    private static long begin(ChanceHall hall, int states, int slots) {
        hall.begin(states, slots);
        return 0;
    }

    private static void statesOfLead() {
        Halls.eachState("lead(_, 0, 0)", (hall, state) -> hall.lead(state, 0, 0), (chain, state) -> chain.goesTo[state][0]);
    }

    private static void slotsOfLead() {
        Halls.eachSlot("lead(0, _, 0)", (hall, slot) -> hall.lead(0, slot, 0), (chain, slot) -> chain.goesTo[0][slot]);
    }

    private static void statesOfLeadTo() {
        Halls.eachState("lead(0, 0, _), and where it led", (hall, to) -> {
            hall.lead(0, 0, to);
            return hall.lead(0, 0, 0);
        }, (chain, to) -> to);
    }

    private static void leadsToTheSame() {
        ChanceHall hall = Halls.staying(2, 1);
        Check.due("lead(0, 0, 0) to where it leads", hall.lead(0, 0, 0), 0);
        Check.due("weight(0, 0)", hall.weight(0, 0), 1);
        Check.due("lead(0, 0, 1)", hall.lead(0, 0, 1), 0);
        Check.due("lead(0, 0, 1) again", hall.lead(0, 0, 1), 1);
        Check.due("weight(0, 1)", hall.weight(0, 1), 1);
        Check.due("weight(0, 0) behind it", hall.weight(0, 0), 0);
    }

    private static void noLead() {
        Halls.noState("lead(_, 0, 0)", (hall, state) -> hall.lead(state, 0, 0));
        Halls.noSlot("lead(0, _, 0)", (hall, slot) -> hall.lead(0, slot, 0));
        Halls.noState("lead(0, 0, _)", (hall, to) -> hall.lead(0, 0, to));
    }

    private static void statesOfSwap() {
        for (Oracle chain : Halls.chains()) {
            swapAndLookAt(chain, 0, 0, chain.slots - 1);
            swapAndLookAt(chain, chain.states - 1, 0, chain.slots - 1);
        }
    }

    private static void slotsOfSwap() {
        for (Oracle chain : Halls.chains()) {
            swapAndLookAt(chain, 0, 0, chain.slots / 2);
            swapAndLookAt(chain, 0, chain.slots - 1, chain.slots / 2);
        }
    }

    private static void othersOfSwap() {
        for (Oracle chain : Halls.chains()) {
            swapAndLookAt(chain, 0, chain.slots / 2, 0);
            swapAndLookAt(chain, 0, chain.slots / 2, chain.slots - 1);
        }
    }

    private static void swapsWithItself() {
        for (Oracle chain : Halls.chains()) {
            swapAndLookAt(chain, 0, 0, 0);
            swapAndLookAt(chain, chain.states - 1, chain.slots - 1, chain.slots - 1);
        }
        ChanceHall hall = Halls.staying(2, 2);
        hall.swap(1, 0, 1);
        Halls.lookAt("swap of slots that lead to one state", hall, new Oracle(2, 2));
    }

    private static void swapAndLookAt(Oracle chain, int state, int slot, int other) {
        ChanceHall hall = Halls.like(chain);
        hall.swap(state, slot, other);
        Oracle swapped = chain.copy();
        swapped.goesTo[state][slot] = chain.goesTo[state][other];
        swapped.goesTo[state][other] = chain.goesTo[state][slot];
        Halls.lookAt("swap(" + state + ", " + slot + ", " + other + ")", hall, swapped);
    }

    private static void noSwap() {
        Halls.noState("swap(_, 0, 0)", (hall, state) -> swap(hall, state, 0, 0));
        Halls.noSlot("swap(0, _, 0)", (hall, slot) -> swap(hall, 0, slot, 0));
        Halls.noSlot("swap(0, 0, _)", (hall, other) -> swap(hall, 0, 0, other));
        Halls.noSlot("swap(0, _, _)", (hall, slot) -> swap(hall, 0, slot, slot));
    }

    private static long swap(ChanceHall hall, int state, int slot, int other) {
        hall.swap(state, slot, other);
        return 0;
    }

    private static void statesOfPay() {
        Halls.eachState("pay(_, 1)", (hall, state) -> hall.pay(state, 1), (chain, state) -> chain.pays[state]);
    }

    private static void paysOfPay() {
        Halls.leastAndMost("pay(0, _), and what it was", -MOST_PAY, MOST_PAY, (hall, pay) -> {
            hall.pay(0, pay);
            return hall.pay(0, 0);
        }, (chain, pay) -> pay);
    }

    private static void noStateOfPay() {
        Halls.noState("pay(_, 1)", (hall, state) -> hall.pay(state, 1));
        Halls.noState("pay(_, 100001)", (hall, state) -> hall.pay(state, MOST_PAY + 1));
    }

    private static void noPay() {
        Halls.noArgument("pay(0, _)", -MOST_PAY, MOST_PAY, (hall, pay) -> hall.pay(0, pay));
    }

    private static void statesOfColour() {
        Halls.eachState("colour(_, 1)", (hall, state) -> hall.colour(state, 1), (chain, state) -> chain.colours[state]);
    }

    private static void coloursOfColour() {
        Halls.leastAndMost("colour(0, _), and what it was", 0, 5, (hall, colour) -> {
            hall.colour(0, colour);
            return hall.colour(0, 1);
        }, (chain, colour) -> colour);
    }

    private static void noStateOfColour() {
        Halls.noState("colour(_, 1)", (hall, state) -> hall.colour(state, 1));
        Halls.noState("colour(_, 6)", (hall, state) -> hall.colour(state, 6));
    }

    private static void noColour() {
        Halls.noArgument("colour(0, _)", 0, 5, (hall, colour) -> hall.colour(0, colour));
    }

    private static void statesOfWeight() {
        Halls.eachState("weight(_, 0)", (hall, state) -> hall.weight(state, 0), (chain, state) -> chain.weight(state, 0));
    }

    private static void statesOfWeightTo() {
        Halls.eachState("weight(0, _)", (hall, to) -> hall.weight(0, to), (chain, to) -> chain.weight(0, to));
    }

    private static void weightsFullAndEmpty() {
        ChanceHall hall = Halls.staying(6, 12);
        Check.due("weight(0, 0) by all slots", hall.weight(0, 0), 12);
        Check.due("weight(0, 5) by none", hall.weight(0, 5), 0);
        Halls.leadAll(hall, 0, 12, 5);
        Check.due("weight(0, 0) by none", hall.weight(0, 0), 0);
        Check.due("weight(0, 5) by all slots", hall.weight(0, 5), 12);
        hall.lead(0, 11, 0);
        Check.due("weight(0, 0) by one", hall.weight(0, 0), 1);
        Check.due("weight(0, 5) by all but one", hall.weight(0, 5), 11);
    }

    private static void noWeight() {
        Halls.noState("weight(_, 0)", (hall, state) -> hall.weight(state, 0));
        Halls.noState("weight(0, _)", (hall, to) -> hall.weight(0, to));
    }
}
