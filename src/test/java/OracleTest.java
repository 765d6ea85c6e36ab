/** Many chains, each answer against the literal way of Oracle: all promises from 3 on. */
public final class OracleTest {
    private static final int CHAINS = 400;
    /** An object is used for at most 512 calls; some are left for those that build the chain anew. */
    private static final int CALLS_OF_AN_OBJECT = 380;

    private final Numbers numbers;
    private final Oracle oracle;
    private final String name;
    private ChanceHall object;
    private int calls;

    private OracleTest(int number) {
        numbers = new Numbers(number);
        int states = 1 + number % 6;
        int slots = number % 5 == 0 ? numbers.between(4, 12) : numbers.between(1, 3);
        name = "chain " + number + " of " + states + " states and " + slots + " slots: ";
        oracle = new Oracle(states, slots);
        buildAnew();
        changeSome(number % 7 == 0 ? states : 3 * states * slots);
    }

    public static void main(String[] args) {
        for (int number = 0; number < CHAINS; number++) {
            OracleTest test = new OracleTest(number);
            test.checkAll();
            test.changeSome(3);
            test.checkAll();
        }
        Check.end();
    }

    private ChanceHall hall() {
        calls++;
        if (calls > CALLS_OF_AN_OBJECT) {
            buildAnew();
        }
        return object;
    }

    /** Another chain goes ahead, so that what its counts leave behind would show. */
    private void buildAnew() {
        object = new ChanceHall();
        calls = 0;
        useAnotherChain();
        object.begin(oracle.states, oracle.slots);
        for (int state = 0; state < oracle.states; state++) {
            object.pay(state, oracle.pays[state]);
            object.colour(state, oracle.colours[state]);
            for (int slot = 0; slot < oracle.slots; slot++) {
                object.lead(state, slot, oracle.goesTo[state][slot]);
            }
        }
    }

    private void useAnotherChain() {
        int states = numbers.between(1, 6);
        object.begin(states, numbers.between(1, 12));
        for (int state = 0; state < states; state++) {
            object.lead(state, 0, numbers.below(states));
            object.pay(state, numbers.between(-9, 9));
            object.colour(state, numbers.below(6));
        }
        object.law(0, 12, 0);
        object.apart(0, states - 1, 12);
        object.together(12, 0);
        object.hits(0, 12, states - 1);
        object.best(0, 12);
        object.rest(-1);
        object.draw(0);
    }

    private void changeSome(int times) {
        for (int time = 0; time < times; time++) {
            int state = numbers.below(oracle.states);
            int slot = numbers.below(oracle.slots);
            int to = numbers.below(oracle.states);
            Check.due(name + "lead", hall().lead(state, slot, to), oracle.goesTo[state][slot]);
            oracle.goesTo[state][slot] = to;
            swapSome();
            paySome();
            colourSome();
        }
    }

    private void swapSome() {
        int state = numbers.below(oracle.states);
        int slot = numbers.below(oracle.slots);
        int other = numbers.below(oracle.slots);
        hall().swap(state, slot, other);
        int was = oracle.goesTo[state][slot];
        oracle.goesTo[state][slot] = oracle.goesTo[state][other];
        oracle.goesTo[state][other] = was;
    }

    private void paySome() {
        int state = numbers.below(oracle.states);
        int pay = numbers.below(3) == 0 ? numbers.between(-100000, 100000) : numbers.between(-2, 2);
        Check.due(name + "pay", hall().pay(state, pay), oracle.pays[state]);
        oracle.pays[state] = pay;
    }

    private void colourSome() {
        int state = numbers.below(oracle.states);
        int colour = numbers.below(3) == 0 ? numbers.below(6) : numbers.below(2);
        Check.due(name + "colour", hall().colour(state, colour), oracle.colours[state]);
        oracle.colours[state] = colour;
    }

    private void checkAll() {
        int mostSteps = oracle.slots <= 3 ? 5 : oracle.slots <= 6 ? 3 : 2;
        for (int state = 0; state < oracle.states; state++) {
            checkState(state);
            for (int steps = 0; steps <= mostSteps; steps++) {
                checkSteps(state, steps);
            }
        }
        checkWhole(mostSteps);
        checkLong();
    }

    private void checkState(int state) {
        Check.due(name + "reach(" + state + ")", hall().reach(state), oracle.reach(state));
        Check.due(name + "period(" + state + ")", hall().period(state), oracle.period(state));
        Check.due(name + "drift(" + state + ")", hall().drift(state), oracle.drift(state));
        for (int to = 0; to < oracle.states; to++) {
            Check.due(name + "weight", hall().weight(state, to), oracle.weight(state, to));
        }
        for (int time = 0; time < 3; time++) {
            int seed = numbers.below(65521);
            int steps = numbers.below(1001);
            Check.due(name + "walk", hall().walk(state, seed, steps), oracle.walk(state, seed, steps));
            Check.due(name + "draw(" + seed + ")", hall().draw(seed), oracle.draw(seed));
        }
    }

    private void checkSteps(int state, int steps) {
        String call = "(" + state + ", " + steps + ")";
        Check.due(name + "best" + call, hall().best(state, steps), oracle.best(state, steps));
        Check.due(name + "stops" + call, hall().stops(state, steps), oracle.stops(state, steps));
        Check.due(name + "together" + call, hall().together(steps, state), oracle.together(steps, state));
        for (int other = 0; other < oracle.states; other++) {
            String pair = "(" + state + ", " + steps + ", " + other + ")";
            long law = oracle.law(state, steps, other);
            Check.due(name + "law" + pair, hall().law(state, steps, other), law);
            if (steps <= 4) {
                Check.due(name + "lawAnew" + pair, hall().lawAnew(state, steps, other), law);
            }
            Check.due(name + "hits" + pair, hall().hits(state, steps, other), oracle.hits(state, steps, other));
            Check.due(name + "apart" + pair, hall().apart(state, other, steps), oracle.apart(state, other, steps));
            Check.due(name + "distance" + pair, hall().distance(state, other, steps), oracle.distance(state, other, steps));
        }
    }

    private void checkWhole(int mostSteps) {
        Check.due(name + "closed()", hall().closed(), oracle.closed());
        Check.due(name + "isLumped()", hall().isLumped(), oracle.isLumped());
        boolean isFair = true;
        for (int state = 0; state < oracle.states; state++) {
            isFair &= oracle.drift(state) == 0;
        }
        Check.due(name + "isFair()", hall().isFair(), isFair);
        checkRests();
        int thousandths = numbers.below(1001);
        int mixed = hall().mixing(thousandths);
        for (int steps = 0; steps <= mostSteps; steps++) {
            if (oracle.isMixed(thousandths, steps)) {
                Check.due(name + "mixing(" + thousandths + ")", mixed, steps);
                return;
            }
        }
        Check.due(name + "mixing(" + thousandths + ") is later", mixed == -1 || mixed > mostSteps, true);
    }

    private void checkRests() {
        long[] rests = oracle.rests();
        int[] ranks = oracle.ranks(rests);
        long whole = 0;
        for (long rest : rests) {
            whole += rest;
        }
        Check.due(name + "rest(-1)", hall().rest(-1), whole);
        Check.due(name + "whole rest and closed classes", whole == 0, oracle.closed() > 1);
        Check.due(name + "reverses()", hall().reverses(), oracle.reverses(rests));
        Check.due(name + "ranked of too many", hall().ranked(oracle.states), -1);
        for (int state = 0; state < oracle.states; state++) {
            int at = state;
            Check.due(name + "rest(" + state + ")", hall().rest(state), rests[state]);
            Check.due(name + "ranked(" + state + ")", hall().ranked(state), ranks[state]);
            if (whole == 0) {
                Check.dueState(name + "share(" + state + ")", () -> hall().share(at));
            } else {
                Check.dueFloat(name + "share(" + state + ")", hall().share(state), (float) rests[state] / (float) whole);
            }
        }
    }

    /** Longer words than can be gone through: what the answers say of one another. */
    private void checkLong() {
        int steps = numbers.between(5, 11);
        int from = numbers.below(oracle.states);
        int other = numbers.below(oracle.states);
        long sum = 0;
        for (int to = 0; to < oracle.states; to++) {
            long byOneMore = 0;
            for (int by = 0; by < oracle.states; by++) {
                byOneMore += oracle.weight(from, by) * hall().law(by, steps, to);
            }
            Check.due(name + "law by one step more", hall().law(from, steps + 1, to), byOneMore);
            sum += hall().law(from, steps, to);
            Check.due(name + "hits are no fewer than the law",
                hall().hits(from, steps, to) >= hall().law(from, steps, to), true);
        }
        Check.due(name + "laws together", sum, hall().words(steps));
        Check.due(name + "distance both ways", hall().distance(from, other, steps), hall().distance(other, from, steps));
        Check.due(name + "apart is no less than the distance",
            hall().apart(from, other, steps) >= hall().distance(from, other, steps), true);
        long fallen = 0;
        for (int to = 0; to < oracle.states; to++) {
            fallen += hall().together(steps, to);
        }
        Check.due(name + "fallen together are no more than those that met",
            fallen <= hall().words(steps) - hall().apart(from, other, steps), true);
    }
}
