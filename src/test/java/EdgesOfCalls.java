import java.util.ArrayList;
import java.util.List;

/** What the document says of all calls: which exception goes first, what a refused call leaves, how many calls hold. */
final class EdgesOfCalls {
    private static final int MOST_CALLS = 512;
    private static final int NO_SEED = 65521;

    private record Call(String name, Halls.Refused made) {
    }

    private EdgesOfCalls() {
    }

    static void testAll(Edges edges) {
        edges.test(Edges.TERMS, "An object is used for at most 512 calls after it has been made",
            EdgesOfCalls::lastCallHolds);
        edges.test(Edges.TERMS, "IndexOutOfBoundsException is thrown for a state or slot that does not exist",
            EdgesOfCalls::noSuchStateOrSlot);
        edges.test(Edges.TERMS, "IllegalArgumentException for another argument out of range",
            EdgesOfCalls::noSuchArgument);
        edges.test(Edges.TERMS, "and IllegalStateException if a call is not possible now.",
            EdgesOfCalls::notPossibleNow);
        edges.test(Edges.TERMS, "If several apply, IndexOutOfBoundsException goes first, then IllegalArgumentException.",
            EdgesOfCalls::indexGoesFirst);
        edges.test(Edges.TERMS, "A call that throws an exception changes nothing.",
            EdgesOfCalls::refusedCallsChangeNothing);
    }

    /** Each kind of call is made as the last one of 512; some of those ahead of it are refused, and count too. */
    private static void lastCallHolds() {
        Oracle chain = Halls.some(6, 12, 2026);
        List<Halls.Ask> asks = askAll();
        for (int kind = 0; kind < asks.size(); kind++) {
            ChanceHall hall = Halls.like(chain);
            int calls = 1 + 2 * chain.states + chain.states * chain.slots;
            for (; calls < MOST_CALLS - 1; calls++) {
                askOrRefuse(hall, asks, calls);
            }
            long due = asks.get(kind).ask(Halls.like(chain), 0);
            Check.due("call 512 of kind " + kind, asks.get(kind).ask(hall, 0), due);
        }
    }

    private static void askOrRefuse(ChanceHall hall, List<Halls.Ask> asks, int calls) {
        if (calls % 5 == 0) {
            Check.dueIndex("lead of no state", () -> hall.lead(6, 0, 0));
        } else {
            asks.get(calls % asks.size()).ask(hall, 0);
        }
    }

    /** All calls that answer, with state 5 and much else at its most; what they set is what there was. */
    private static List<Halls.Ask> askAll() {
        Oracle chain = Halls.some(6, 12, 2026);
        List<Halls.Ask> asks = new ArrayList<>();
        asks.add((hall, none) -> hall.lead(5, 11, chain.goesTo[5][11]));
        asks.add((hall, none) -> hall.pay(5, chain.pays[5]));
        asks.add((hall, none) -> hall.colour(5, chain.colours[5]));
        asks.add((hall, none) -> hall.weight(5, 5));
        asks.add((hall, none) -> hall.words(12));
        asks.add((hall, none) -> hall.law(5, 12, 5));
        asks.add((hall, none) -> hall.lawAnew(5, 4, 5));
        asks.add((hall, none) -> hall.distance(0, 5, 12));
        asks.add((hall, none) -> hall.mixing(1));
        asks.add((hall, none) -> hall.apart(0, 5, 12));
        asks.add((hall, none) -> hall.together(12, 5));
        asks.add((hall, none) -> hall.hits(0, 12, 5));
        asks.add((hall, none) -> hall.reach(5));
        asks.add((hall, none) -> hall.closed());
        asks.add((hall, none) -> hall.period(5));
        asks.add((hall, none) -> hall.rest(-1));
        asks.add((hall, none) -> Float.floatToIntBits(hall.share(5)));
        asks.add((hall, none) -> hall.ranked(5));
        asks.add((hall, none) -> hall.walk(5, 65520, 1000));
        asks.add((hall, none) -> hall.draw(65520));
        asks.add((hall, none) -> hall.drift(5));
        asks.add((hall, none) -> Halls.asNumber(hall.isFair()));
        asks.add((hall, none) -> hall.best(5, 12));
        asks.add((hall, none) -> Halls.asNumber(hall.stops(5, 12)));
        asks.add((hall, none) -> Halls.asNumber(hall.reverses()));
        asks.add((hall, none) -> Halls.asNumber(hall.isLumped()));
        return asks;
    }

    /** The chain is of 3 states and 2 slots. */
    private static List<Call> callsOfNoStateOrSlot() {
        List<Call> calls = new ArrayList<>();
        for (int none : new int[] {-1, 3, 6, Integer.MIN_VALUE, Integer.MAX_VALUE}) {
            calls.add(new Call("lead", hall -> hall.lead(none, 0, 0)));
            calls.add(new Call("lead by slot", hall -> hall.lead(0, none == 3 ? 2 : none, 0)));
            calls.add(new Call("lead to", hall -> hall.lead(0, 0, none)));
            calls.add(new Call("swap", hall -> hall.swap(none, 0, 1)));
            calls.add(new Call("swap of slot", hall -> hall.swap(0, none == 3 ? 2 : none, 1)));
            calls.add(new Call("swap with slot", hall -> hall.swap(0, 1, none == 3 ? 2 : none)));
            calls.add(new Call("pay", hall -> hall.pay(none, 1)));
            calls.add(new Call("colour", hall -> hall.colour(none, 1)));
            calls.add(new Call("weight", hall -> hall.weight(none, 0)));
            calls.add(new Call("weight to", hall -> hall.weight(0, none)));
            calls.add(new Call("reach", hall -> hall.reach(none)));
            calls.add(new Call("period", hall -> hall.period(none)));
            calls.add(new Call("rest", hall -> hall.rest(none == -1 ? -2 : none)));
            calls.add(new Call("share", hall -> hall.share(none)));
            calls.add(new Call("drift", hall -> hall.drift(none)));
        }
        calls.add(new Call("ranked", hall -> hall.ranked(-1)));
        calls.add(new Call("ranked", hall -> hall.ranked(Integer.MIN_VALUE)));
        calls.addAll(callsOfTwo(0, 0, 0));
        return calls;
    }

    /** Calls of a state that is not there, with steps or a seed beside it, which may be in range or not. */
    private static List<Call> callsOfTwo(int steps, int stepsAnew, int seed) {
        List<Call> calls = new ArrayList<>();
        for (int none : new int[] {-1, 3, 6, Integer.MIN_VALUE, Integer.MAX_VALUE}) {
            calls.add(new Call("law", hall -> hall.law(none, steps, 0)));
            calls.add(new Call("law to", hall -> hall.law(0, steps, none)));
            calls.add(new Call("lawAnew", hall -> hall.lawAnew(none, stepsAnew, 0)));
            calls.add(new Call("lawAnew to", hall -> hall.lawAnew(0, stepsAnew, none)));
            calls.add(new Call("distance", hall -> hall.distance(none, 0, steps)));
            calls.add(new Call("distance, other", hall -> hall.distance(0, none, steps)));
            calls.add(new Call("apart", hall -> hall.apart(none, 0, steps)));
            calls.add(new Call("apart, other", hall -> hall.apart(0, none, steps)));
            calls.add(new Call("together", hall -> hall.together(steps, none)));
            calls.add(new Call("hits", hall -> hall.hits(none, steps, 0)));
            calls.add(new Call("hits to", hall -> hall.hits(0, steps, none)));
            calls.add(new Call("best", hall -> hall.best(none, steps)));
            calls.add(new Call("stops", hall -> hall.stops(none, steps)));
            calls.add(new Call("walk", hall -> hall.walk(none, seed, 0)));
            calls.add(new Call("walk of steps", hall -> hall.walk(none, 0, steps == 0 ? 0 : steps < 0 ? -1 : 1001)));
        }
        return calls;
    }

    private static List<Call> callsOutOfRange() {
        List<Call> calls = new ArrayList<>();
        for (int wrong : new int[] {-1, 13, Integer.MIN_VALUE, Integer.MAX_VALUE}) {
            calls.add(new Call("begin of states", hall -> hall.begin(wrong, 1)));
            calls.add(new Call("begin of slots", hall -> hall.begin(1, wrong)));
            calls.add(new Call("begin of both", hall -> hall.begin(wrong, wrong)));
            calls.add(new Call("pay", hall -> hall.pay(0, wrong < 0 ? Math.min(wrong, -100001) : Math.max(wrong, 100001))));
            calls.add(new Call("colour", hall -> hall.colour(0, wrong == 13 ? 6 : wrong)));
            calls.add(new Call("words", hall -> hall.words(wrong)));
            calls.add(new Call("law", hall -> hall.law(0, wrong, 0)));
            calls.add(new Call("lawAnew", hall -> hall.lawAnew(0, wrong == 13 ? 5 : wrong, 0)));
            calls.add(new Call("distance", hall -> hall.distance(0, 1, wrong)));
            calls.add(new Call("mixing", hall -> hall.mixing(wrong == 13 ? 1001 : wrong)));
            calls.add(new Call("apart", hall -> hall.apart(0, 1, wrong)));
            calls.add(new Call("together", hall -> hall.together(wrong, 0)));
            calls.add(new Call("hits", hall -> hall.hits(0, wrong, 0)));
            calls.add(new Call("walk of seed", hall -> hall.walk(0, wrong == 13 ? NO_SEED : wrong, 1)));
            calls.add(new Call("walk of steps", hall -> hall.walk(0, 1, wrong == 13 ? 1001 : wrong)));
            calls.add(new Call("draw", hall -> hall.draw(wrong == 13 ? NO_SEED : wrong)));
            calls.add(new Call("best", hall -> hall.best(0, wrong)));
            calls.add(new Call("stops", hall -> hall.stops(0, wrong)));
        }
        return calls;
    }

    private static List<Call> callsWithBothWrong() {
        List<Call> calls = new ArrayList<>();
        for (int wrong : new int[] {-1, 13, Integer.MIN_VALUE, Integer.MAX_VALUE}) {
            calls.addAll(callsOfTwo(wrong, wrong == 13 ? 5 : wrong, wrong == 13 ? NO_SEED : wrong));
            calls.add(new Call("pay", hall -> hall.pay(3, wrong < 0 ? -100001 : 100001)));
            calls.add(new Call("pay", hall -> hall.pay(-1, wrong < 0 ? Integer.MIN_VALUE : Integer.MAX_VALUE)));
            calls.add(new Call("colour", hall -> hall.colour(3, wrong == 13 ? 6 : wrong)));
            calls.add(new Call("colour", hall -> hall.colour(-1, wrong == 13 ? 6 : wrong)));
        }
        return calls;
    }

    /** All refused with that exception, each by a chain of its own, which is then as it was. */
    private static void refuseAll(Oracle chain, List<Call> calls, Class<? extends RuntimeException> due) {
        for (Call call : calls) {
            Halls.refuseOne(chain, call.name(), due, call.made());
        }
    }

    private static void noSuchStateOrSlot() {
        refuseAll(Halls.some(3, 2, 8), callsOfNoStateOrSlot(), IndexOutOfBoundsException.class);
    }

    private static void noSuchArgument() {
        refuseAll(Halls.some(3, 2, 9), callsOutOfRange(), IllegalArgumentException.class);
    }

    private static void notPossibleNow() {
        ChanceHall hall = Halls.staying(2, 2);
        Check.dueState("share(0) of two classes", () -> hall.share(0));
        hall.lead(0, 1, 1);
        Check.dueFloat("share(0), possible now", hall.share(0), 0f);
        hall.lead(0, 1, 0);
        Check.dueState("share(1), not possible any more", () -> hall.share(1));
        hall.begin(1, 1);
        Check.dueFloat("share(0) of one state", hall.share(0), 1f);
    }

    private static void indexGoesFirst() {
        refuseAll(Halls.some(3, 2, 10), callsWithBothWrong(), IndexOutOfBoundsException.class);
        ChanceHall hall = Halls.staying(2, 2);
        Check.dueIndex("share(2), not possible either", () -> hall.share(2));
        Check.dueIndex("share(-1), not possible either", () -> hall.share(-1));
    }

    /** All refused calls on one chain, one behind the other, within the 512 calls; it answers as one that had none. */
    private static void refusedCallsChangeNothing() {
        Oracle chain = Halls.some(3, 2, 11);
        ChanceHall hall = Halls.like(chain);
        for (Call call : callsOfNoStateOrSlot()) {
            Check.dueIndex(call.name(), () -> call.made().make(hall));
        }
        for (Call call : callsOutOfRange()) {
            Check.dueArgument(call.name(), () -> call.made().make(hall));
        }
        Halls.lookAt("behind refused calls", hall, chain);
        Check.due("law(0, 3, 2) behind refused calls", hall.law(0, 3, 2), chain.law(0, 3, 2));
        Check.due("apart(0, 1, 3) behind refused calls", hall.apart(0, 1, 3), chain.apart(0, 1, 3));
        Check.due("together(3, 0) behind refused calls", hall.together(3, 0), chain.together(3, 0));
        Check.due("rest(2) behind refused calls", hall.rest(2), chain.rest(2));
        Check.due("draw(5) behind refused calls", hall.draw(5), chain.draw(5));
        Check.due("best(1, 3) behind refused calls", hall.best(1, 3), chain.best(1, 3));
        Check.due("isLumped() behind refused calls", hall.isLumped(), chain.isLumped());
    }
}
