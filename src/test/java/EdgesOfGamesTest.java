/** Promises 24 to 29: each sentence that names an edge has a test of its own. */
public final class EdgesOfGamesTest {
    private static final long MOST_WORDS = 8916100448256L;
    private static final int MOST_PAY = 100000;
    private static final String STATE = "- `state`: a state";
    private static final String STEPS = "- `steps`: 0 to 12: how many are left";
    private static final String NO_STATE = "Throws `IndexOutOfBoundsException` if there is no such state";
    private static final String NO_STEPS = "Throws `IllegalArgumentException` if steps is out of range";

    public static void main(String[] args) {
        Edges edges = new Edges();
        edges.test(24, STATE, EdgesOfGamesTest::statesOfDrift);
        edges.test(24, "Returns the drift.", EdgesOfGamesTest::driftsLeastAndMost);
        edges.test(24, NO_STATE, EdgesOfGamesTest::noStateOfDrift);
        edges.test(25, "Returns whether the game is fair.", EdgesOfGamesTest::justFairOrNot);
        edges.test(26, STATE, EdgesOfGamesTest::statesOfBest);
        edges.test(26, STEPS, EdgesOfGamesTest::stepsOfBest);
        edges.test(26, NO_STATE, EdgesOfGamesTest::noStateOfBest);
        edges.test(26, NO_STEPS, EdgesOfGamesTest::noStepsOfBest);
        edges.test(27, STATE, EdgesOfGamesTest::statesOfStops);
        edges.test(27, STEPS, EdgesOfGamesTest::stepsOfStops);
        edges.test(27, "Returns true if so; always without steps.", EdgesOfGamesTest::stopsWithoutSteps);
        edges.test(27, NO_STATE, EdgesOfGamesTest::noStateOfStops);
        edges.test(27, NO_STEPS, EdgesOfGamesTest::noStepsOfStops);
        edges.test(28, "Returns whether the chain reverses.", EdgesOfGamesTest::justReversesOrNot);
        edges.test(29, "Returns whether the colours lump the chain.", EdgesOfGamesTest::justLumpedOrNot);
        edges.endOf(24, 29);
        Check.end();
    }

    private static void statesOfDrift() {
        Halls.eachState("drift(_)", (hall, state) -> hall.drift(state), (chain, state) -> chain.drift(state));
    }

    private static void driftsLeastAndMost() {
        ChanceHall hall = Halls.circle(2, 12);
        Check.due("drift(0) without pays", hall.drift(0), 0);
        hall.pay(0, MOST_PAY);
        hall.pay(1, -MOST_PAY);
        Check.due("drift(0), the least", hall.drift(0), -24L * MOST_PAY);
        Check.due("drift(1), the most", hall.drift(1), 24L * MOST_PAY);
        ChanceHall one = Halls.staying(1, 12);
        one.pay(0, MOST_PAY);
        Check.due("drift(0) of one state", one.drift(0), 0);
    }

    private static void noStateOfDrift() {
        Halls.noState("drift(_)", (hall, state) -> hall.drift(state));
    }

    private static void justFairOrNot() {
        for (int states = 2; states <= 6; states++) {
            ChanceHall hall = Halls.circle(states, 12);
            Check.due("isFair() without pays", hall.isFair(), true);
            for (int state = 0; state < states; state++) {
                hall.pay(state, MOST_PAY);
            }
            Check.due("isFair() of pays that are the same", hall.isFair(), true);
            hall.pay(states - 1, MOST_PAY - 1);
            Check.due("isFair() with the last pay one less", hall.isFair(), false);
        }
        ChanceHall one = Halls.staying(1, 1);
        one.pay(0, -MOST_PAY);
        Check.due("isFair() of one state", one.isFair(), true);
        justTheLastUnfair();
        justTheFirstUnfair();
    }

    private static void justTheLastUnfair() {
        ChanceHall hall = Halls.staying(6, 12);
        hall.pay(5, 1);
        Check.due("isFair() of what stays", hall.isFair(), true);
        hall.lead(5, 11, 0);
        Check.due("isFair() with just the last drift not 0", hall.isFair(), false);
    }

    private static void justTheFirstUnfair() {
        ChanceHall hall = Halls.staying(6, 12);
        hall.pay(5, 1);
        hall.lead(0, 11, 5);
        Check.due("isFair() with just the first drift not 0", hall.isFair(), false);
    }

    private static void statesOfBest() {
        Halls.eachState("best(_, 2)", (hall, state) -> hall.best(state, 2), (chain, state) -> chain.best(state, 2));
    }

    private static void stepsOfBest() {
        Halls.leastAndMost("best(0, _)", 0, 12, (hall, steps) -> hall.best(0, steps),
            (chain, steps) -> new LongOracle(chain).best(0, steps));
        ChanceHall hall = Halls.circle(6, 12);
        hall.pay(4, MOST_PAY);
        Check.due("best(5, 0), the pay", hall.best(5, 0), 0);
        Check.due("best(5, 4), one step too few", hall.best(5, 4), 0);
        Check.due("best(5, 5)", hall.best(5, 5), MOST_PAY * 248832L);
        Check.due("best(5, 12), the most", hall.best(5, 12), MOST_PAY * MOST_WORDS);
        for (int state = 0; state < 6; state++) {
            hall.pay(state, -MOST_PAY);
        }
        Check.due("best(5, 12), the least", hall.best(5, 12), -MOST_PAY * MOST_WORDS);
    }

    private static void noStateOfBest() {
        Halls.noState("best(_, 0)", (hall, state) -> hall.best(state, 0));
        Halls.noState("best(_, 12)", (hall, state) -> hall.best(state, 12));
    }

    private static void noStepsOfBest() {
        Halls.noArgument("best(0, _)", 0, 12, (hall, steps) -> hall.best(0, steps));
    }

    private static void statesOfStops() {
        Halls.eachState("stops(_, 2)", (hall, state) -> Halls.asNumber(hall.stops(state, 2)),
            (chain, state) -> Halls.asNumber(chain.stops(state, 2)));
    }

    private static void stepsOfStops() {
        Halls.leastAndMost("stops(0, _)", 0, 12, (hall, steps) -> Halls.asNumber(hall.stops(0, steps)),
            (chain, steps) -> Halls.asNumber(new LongOracle(chain).stops(0, steps)));
        ChanceHall hall = Halls.circle(6, 12);
        hall.pay(4, 1);
        Check.due("stops(5, 4), nothing is within 4 steps", hall.stops(5, 4), true);
        Check.due("stops(5, 5)", hall.stops(5, 5), false);
        Check.due("stops(5, 12)", hall.stops(5, 12), false);
        Check.due("stops(4, 12)", hall.stops(4, 12), true);
    }

    private static void stopsWithoutSteps() {
        ChanceHall hall = Halls.circle(6, 12);
        hall.pay(0, -MOST_PAY);
        hall.pay(1, MOST_PAY);
        for (int state = 0; state < 6; state++) {
            Check.due("stops(" + state + ", 0)", hall.stops(state, 0), true);
        }
        Check.due("stops(0, 1), where going on is better", hall.stops(0, 1), false);
    }

    private static void noStateOfStops() {
        Halls.noState("stops(_, 0)", (hall, state) -> Halls.asNumber(hall.stops(state, 0)));
        Halls.noState("stops(_, 12)", (hall, state) -> Halls.asNumber(hall.stops(state, 12)));
    }

    private static void noStepsOfStops() {
        Halls.noArgument("stops(0, _)", 0, 12, (hall, steps) -> Halls.asNumber(hall.stops(0, steps)));
    }

    private static void justReversesOrNot() {
        Check.due("reverses() of one state", Halls.staying(1, 12).reverses(), true);
        Check.due("reverses() of a circle of two", Halls.circle(2, 12).reverses(), true);
        Check.due("reverses() of a circle of three", Halls.circle(3, 12).reverses(), false);
        ChanceHall line = Halls.staying(6, 12);
        for (int state = 0; state < 5; state++) {
            line.lead(state, 0, state + 1);
            Halls.leadAll(line, state + 1, state + 1, state);
        }
        Check.due("reverses() of a line there and back", line.reverses(), true);
        line.lead(5, 11, 3);
        Check.due("reverses() of a line with one slot more from the last", line.reverses(), false);
    }

    private static void justLumpedOrNot() {
        Check.due("isLumped() of one state", Halls.staying(1, 12).isLumped(), true);
        ChanceHall hall = Halls.circle(6, 12);
        Check.due("isLumped() of one colour", hall.isLumped(), true);
        for (int state = 0; state < 6; state++) {
            hall.colour(state, state);
        }
        Check.due("isLumped() of six colours", hall.isLumped(), true);
        hall.colour(5, 0);
        Check.due("isLumped() of the first and the last of a circle", hall.isLumped(), false);
        Halls.leadAll(hall, 5, 12, 1);
        Check.due("isLumped() of the first and the last that go on alike", hall.isLumped(), true);
        hall.lead(5, 11, 2);
        Check.due("isLumped() with one slot of the last elsewhere", hall.isLumped(), false);
        hall.colour(1, 2);
        Check.due("isLumped(), but 1 and 2 go on differently", hall.isLumped(), false);
        Halls.leadAll(hall, 1, 12, 3);
        Check.due("isLumped() with 1 and 2 of one colour that go on alike", hall.isLumped(), true);
    }
}
