/** Promises 8 to 15: each sentence that names an edge has a test of its own. */
public final class EdgesOfLawsTest {
    private static final long MOST_WORDS = 8916100448256L;
    private static final String NO_STATE_OF_EITHER =
        "Throws `IndexOutOfBoundsException` if there is no such state, of either";
    private static final String NO_STEPS = "Throws `IllegalArgumentException` if steps is out of range";
    private static final String STEPS = "- `steps`: 0 to 12";

    public static void main(String[] args) {
        Edges edges = new Edges();
        edges.test(8, STEPS, EdgesOfLawsTest::stepsOfWords);
        edges.test(8, NO_STEPS, EdgesOfLawsTest::noStepsOfWords);
        testLaw(edges);
        testLawAnew(edges);
        testDistance(edges);
        edges.test(12, "- `thousandths`: 0 to 1000", EdgesOfLawsTest::thousandthsOfMixing);
        edges.test(12, "Returns the steps; -1 if it is not behind 12 steps or fewer.",
            EdgesOfLawsTest::mixedBehindTwelveOrNot);
        edges.test(12, "Throws `IllegalArgumentException` if thousandths is out of range",
            EdgesOfLawsTest::noThousandths);
        testApart(edges);
        testTogether(edges);
        testHits(edges);
        edges.endOf(8, 15);
        Check.end();
    }

    private static void testLaw(Edges edges) {
        edges.test(9, "- `from`: a state", EdgesOfLawsTest::statesOfLaw);
        edges.test(9, STEPS, EdgesOfLawsTest::stepsOfLaw);
        edges.test(9, "- `to`: a state", EdgesOfLawsTest::statesOfLawTo);
        edges.test(9, NO_STATE_OF_EITHER, EdgesOfLawsTest::noStateOfLaw);
        edges.test(9, NO_STEPS, EdgesOfLawsTest::noStepsOfLaw);
    }

    private static void testLawAnew(Edges edges) {
        edges.test(10, "- `from`: a state", EdgesOfLawsTest::statesOfLawAnew);
        edges.test(10, "- `steps`: 0 to 4", EdgesOfLawsTest::stepsOfLawAnew);
        edges.test(10, "- `to`: a state", EdgesOfLawsTest::statesOfLawAnewTo);
        edges.test(10, NO_STATE_OF_EITHER, EdgesOfLawsTest::noStateOfLawAnew);
        edges.test(10, NO_STEPS, EdgesOfLawsTest::noStepsOfLawAnew);
        edges.test(10, "Returns the same, by going through all words.", EdgesOfLawsTest::sameAsTheLaw);
    }

    private static void testDistance(Edges edges) {
        edges.test(11, "- `one`: a state", EdgesOfLawsTest::onesOfDistance);
        edges.test(11, "- `other`: a state", EdgesOfLawsTest::othersOfDistance);
        edges.test(11, STEPS, EdgesOfLawsTest::stepsOfDistance);
        edges.test(11, NO_STATE_OF_EITHER, EdgesOfLawsTest::noStateOfDistance);
        edges.test(11, NO_STEPS, EdgesOfLawsTest::noStepsOfDistance);
    }

    private static void testApart(Edges edges) {
        edges.test(13, "- `one`: the state of the one at first", EdgesOfLawsTest::onesOfApart);
        edges.test(13, "- `other`: that of the other one", EdgesOfLawsTest::othersOfApart);
        edges.test(13, STEPS, EdgesOfLawsTest::stepsOfApart);
        edges.test(13, NO_STATE_OF_EITHER, EdgesOfLawsTest::noStateOfApart);
        edges.test(13, NO_STEPS, EdgesOfLawsTest::noStepsOfApart);
    }

    private static void testTogether(Edges edges) {
        edges.test(14, STEPS, EdgesOfLawsTest::stepsOfTogether);
        edges.test(14, "- `to`: a state", EdgesOfLawsTest::statesOfTogether);
        edges.test(14, "Throws `IndexOutOfBoundsException` if there is no such state",
            EdgesOfLawsTest::noStateOfTogether);
        edges.test(14, NO_STEPS, EdgesOfLawsTest::noStepsOfTogether);
    }

    private static void testHits(Edges edges) {
        edges.test(15, "it may be there ahead of the first step", EdgesOfLawsTest::hitsAheadOfTheFirst);
        edges.test(15, "behind any step", EdgesOfLawsTest::hitsBehindAny);
        edges.test(15, "or behind the last one", EdgesOfLawsTest::hitsBehindTheLast);
        edges.test(15, "- `from`: a state", EdgesOfLawsTest::statesOfHits);
        edges.test(15, STEPS, EdgesOfLawsTest::stepsOfHits);
        edges.test(15, "- `to`: a state", EdgesOfLawsTest::statesOfHitsTo);
        edges.test(15, NO_STATE_OF_EITHER, EdgesOfLawsTest::noStateOfHits);
        edges.test(15, NO_STEPS, EdgesOfLawsTest::noStepsOfHits);
    }

    private static LongOracle counted(Oracle chain) {
        return new LongOracle(chain);
    }

    private static void stepsOfWords() {
        Halls.leastAndMost("words(_)", 0, 12, (hall, steps) -> hall.words(steps), (chain, steps) -> chain.words(steps));
        Check.due("words(0) of 12 slots", Halls.staying(1, 12).words(0), 1);
        Check.due("words(12) of 12 slots", Halls.staying(1, 12).words(12), MOST_WORDS);
        Check.due("words(12) of 1 slot", Halls.staying(6, 1).words(12), 1);
        Check.due("words(9) of 12 slots, more than an int holds", Halls.staying(1, 12).words(9), 5159780352L);
    }

    private static void noStepsOfWords() {
        Halls.noArgument("words(_)", 0, 12, (hall, steps) -> hall.words(steps));
    }

    private static void statesOfLaw() {
        Halls.eachState("law(_, 2, 0)", (hall, from) -> hall.law(from, 2, 0), (chain, from) -> chain.law(from, 2, 0));
    }

    private static void stepsOfLaw() {
        Halls.leastAndMost("law(0, _, 0)", 0, 12, (hall, steps) -> hall.law(0, steps, 0),
            (chain, steps) -> counted(chain).law(0, steps, 0));
        ChanceHall hall = Halls.staying(2, 12);
        Check.due("law(1, 0, 1)", hall.law(1, 0, 1), 1);
        Check.due("law(1, 0, 0)", hall.law(1, 0, 0), 0);
        Check.due("law(1, 12, 1) of all words", hall.law(1, 12, 1), MOST_WORDS);
        Check.due("law(1, 12, 0) of none", hall.law(1, 12, 0), 0);
    }

    private static void statesOfLawTo() {
        Halls.eachState("law(0, 2, _)", (hall, to) -> hall.law(0, 2, to), (chain, to) -> chain.law(0, 2, to));
    }

    private static void noStateOfLaw() {
        Halls.noState("law(_, 1, 0)", (hall, from) -> hall.law(from, 1, 0));
        Halls.noState("law(0, 1, _)", (hall, to) -> hall.law(0, 1, to));
        Halls.noState("law(_, 0, 0)", (hall, from) -> hall.law(from, 0, 0));
        Halls.noState("law(0, 0, _)", (hall, to) -> hall.law(0, 0, to));
    }

    private static void noStepsOfLaw() {
        Halls.noArgument("law(0, _, 0)", 0, 12, (hall, steps) -> hall.law(0, steps, 0));
    }

    private static void statesOfLawAnew() {
        Halls.eachState("lawAnew(_, 2, 0)", (hall, from) -> hall.lawAnew(from, 2, 0),
            (chain, from) -> chain.law(from, 2, 0));
    }

    private static void stepsOfLawAnew() {
        Halls.leastAndMost("lawAnew(0, _, 0)", 0, 4, (hall, steps) -> hall.lawAnew(0, steps, 0),
            (chain, steps) -> chain.law(0, steps, 0));
        ChanceHall hall = Halls.staying(2, 12);
        Check.due("lawAnew(1, 0, 1)", hall.lawAnew(1, 0, 1), 1);
        Check.due("lawAnew(1, 0, 0)", hall.lawAnew(1, 0, 0), 0);
        Check.due("lawAnew(1, 4, 1) of all words", hall.lawAnew(1, 4, 1), 20736);
        Check.due("lawAnew(1, 4, 0) of none", hall.lawAnew(1, 4, 0), 0);
    }

    private static void statesOfLawAnewTo() {
        Halls.eachState("lawAnew(0, 2, _)", (hall, to) -> hall.lawAnew(0, 2, to), (chain, to) -> chain.law(0, 2, to));
    }

    private static void noStateOfLawAnew() {
        Halls.noState("lawAnew(_, 1, 0)", (hall, from) -> hall.lawAnew(from, 1, 0));
        Halls.noState("lawAnew(0, 1, _)", (hall, to) -> hall.lawAnew(0, 1, to));
        Halls.noState("lawAnew(_, 0, 0)", (hall, from) -> hall.lawAnew(from, 0, 0));
        Halls.noState("lawAnew(0, 0, _)", (hall, to) -> hall.lawAnew(0, 0, to));
    }

    private static void noStepsOfLawAnew() {
        Halls.noArgument("lawAnew(0, _, 0)", 0, 4, (hall, steps) -> hall.lawAnew(0, steps, 0));
        Halls.noArgument("lawAnew(0, 5 to 12, 0)", 0, 4, (hall, steps) -> hall.lawAnew(0, Math.max(steps, 12), 0));
    }

    private static void sameAsTheLaw() {
        for (Oracle chain : Halls.chains()) {
            ChanceHall hall = Halls.like(chain);
            for (int steps = 0; steps <= 4; steps++) {
                int last = chain.states - 1;
                Check.due("lawAnew(0, " + steps + ", last)", hall.lawAnew(0, steps, last), hall.law(0, steps, last));
                Check.due("lawAnew(last, " + steps + ", 0)", hall.lawAnew(last, steps, 0), hall.law(last, steps, 0));
            }
        }
    }

    private static void onesOfDistance() {
        Halls.eachState("distance(_, 0, 2)", (hall, one) -> hall.distance(one, 0, 2),
            (chain, one) -> chain.distance(one, 0, 2));
    }

    private static void othersOfDistance() {
        Halls.eachState("distance(0, _, 2)", (hall, other) -> hall.distance(0, other, 2),
            (chain, other) -> chain.distance(0, other, 2));
    }

    private static void stepsOfDistance() {
        Halls.leastAndMost("distance(0, last, _)", 0, 12,
            (hall, steps) -> hall.distance(0, Halls.lastState(hall), steps),
            (chain, steps) -> counted(chain).distance(0, chain.states - 1, steps));
        ChanceHall hall = Halls.staying(2, 12);
        Check.due("distance(0, 1, 0)", hall.distance(0, 1, 0), 1);
        Check.due("distance(1, 1, 0)", hall.distance(1, 1, 0), 0);
        Check.due("distance(0, 1, 12) of all words", hall.distance(0, 1, 12), MOST_WORDS);
        Check.due("distance(1, 1, 12)", hall.distance(1, 1, 12), 0);
    }

    private static void noStateOfDistance() {
        Halls.noState("distance(_, 0, 1)", (hall, one) -> hall.distance(one, 0, 1));
        Halls.noState("distance(0, _, 1)", (hall, other) -> hall.distance(0, other, 1));
        Halls.noState("distance(_, _, 0)", (hall, both) -> hall.distance(both, both, 0));
    }

    private static void noStepsOfDistance() {
        Halls.noArgument("distance(0, 0, _)", 0, 12, (hall, steps) -> hall.distance(0, 0, steps));
    }

    private static void thousandthsOfMixing() {
        Halls.leastAndMost("mixing(_)", 0, 1000, (hall, most) -> hall.mixing(most),
            (chain, most) -> counted(chain).mixing(most));
        ChanceHall hall = Halls.staying(2, 1);
        Check.due("mixing(1000), which asks nothing", hall.mixing(1000), 0);
        Check.due("mixing(999) of what stays", hall.mixing(999), -1);
        hall.lead(1, 0, 0);
        Check.due("mixing(0) of what falls together", hall.mixing(0), 1);
        Check.due("mixing(0) of one state", Halls.staying(1, 12).mixing(0), 0);
        Check.due("mixing(1000) of what stays, by all slots", Halls.staying(6, 12).mixing(1000), 0);
    }

    /** The distance is 11 to the power of the steps: 383.99.. thousandths behind 11 steps, 351.99.. behind 12. */
    private static void mixedBehindTwelveOrNot() {
        ChanceHall hall = Halls.staying(2, 12);
        hall.lead(0, 0, 1);
        Check.due("mixing(352) behind 12 steps", hall.mixing(352), 12);
        Check.due("mixing(351), not behind 12", hall.mixing(351), -1);
        Check.due("mixing(384) behind 11 steps", hall.mixing(384), 11);
        Check.due("mixing(383), not behind 11", hall.mixing(383), 12);
        Check.due("mixing(0), never", hall.mixing(0), -1);
    }

    private static void noThousandths() {
        Halls.noArgument("mixing(_)", 0, 1000, (hall, thousandths) -> hall.mixing(thousandths));
    }

    private static void onesOfApart() {
        Halls.eachState("apart(_, 0, 2)", (hall, one) -> hall.apart(one, 0, 2), (chain, one) -> chain.apart(one, 0, 2));
    }

    private static void othersOfApart() {
        Halls.eachState("apart(0, _, 2)", (hall, other) -> hall.apart(0, other, 2),
            (chain, other) -> chain.apart(0, other, 2));
    }

    private static void stepsOfApart() {
        Halls.leastAndMost("apart(0, last, _)", 0, 12, (hall, steps) -> hall.apart(0, Halls.lastState(hall), steps),
            (chain, steps) -> counted(chain).apart(0, chain.states - 1, steps));
        ChanceHall hall = Halls.circle(6, 12);
        Check.due("apart(0, 5, 0)", hall.apart(0, 5, 0), 1);
        Check.due("apart(5, 5, 0)", hall.apart(5, 5, 0), 0);
        Check.due("apart(0, 5, 12) of all words", hall.apart(0, 5, 12), MOST_WORDS);
        Check.due("apart(5, 5, 12)", hall.apart(5, 5, 12), 0);
    }

    private static void noStateOfApart() {
        Halls.noState("apart(_, 0, 1)", (hall, one) -> hall.apart(one, 0, 1));
        Halls.noState("apart(0, _, 1)", (hall, other) -> hall.apart(0, other, 1));
        Halls.noState("apart(_, _, 0)", (hall, both) -> hall.apart(both, both, 0));
    }

    private static void noStepsOfApart() {
        Halls.noArgument("apart(0, 0, _)", 0, 12, (hall, steps) -> hall.apart(0, 0, steps));
    }

    private static void stepsOfTogether() {
        Halls.leastAndMost("together(_, 0)", 0, 12, (hall, steps) -> hall.together(steps, 0),
            (chain, steps) -> counted(chain).together(steps, 0));
        ChanceHall hall = Halls.staying(2, 12);
        Halls.leadAll(hall, 0, 12, 1);
        Check.due("together(0, 1)", hall.together(0, 1), 0);
        Check.due("together(1, 1)", hall.together(1, 1), 12);
        Check.due("together(12, 1) of all words", hall.together(12, 1), MOST_WORDS);
        Check.due("together(12, 0) of none", hall.together(12, 0), 0);
    }

    private static void statesOfTogether() {
        Halls.eachState("together(2, _)", (hall, to) -> hall.together(2, to), (chain, to) -> chain.together(2, to));
    }

    private static void noStateOfTogether() {
        Halls.noState("together(1, _)", (hall, to) -> hall.together(1, to));
        Halls.noState("together(0, _)", (hall, to) -> hall.together(0, to));
    }

    private static void noStepsOfTogether() {
        Halls.noArgument("together(_, 0)", 0, 12, (hall, steps) -> hall.together(steps, 0));
    }

    private static void hitsAheadOfTheFirst() {
        ChanceHall hall = Halls.circle(2, 12);
        Check.due("hits(0, 0, 0)", hall.hits(0, 0, 0), 1);
        Check.due("hits(0, 1, 0), where no step leads", hall.hits(0, 1, 0), 12);
        Check.due("hits(0, 12, 0)", hall.hits(0, 12, 0), MOST_WORDS);
    }

    private static void hitsBehindAny() {
        ChanceHall hall = Halls.circle(3, 12);
        Check.due("hits(0, 2, 1), behind the first of two", hall.hits(0, 2, 1), 144);
        Check.due("hits(0, 12, 2), and there again", hall.hits(0, 12, 2), MOST_WORDS);
        hall.begin(3, 1);
        hall.lead(0, 0, 1);
        hall.lead(1, 0, 2);
        Check.due("hits(0, 12, 1), there once", hall.hits(0, 12, 1), 1);
    }

    private static void hitsBehindTheLast() {
        ChanceHall hall = Halls.circle(6, 2);
        Check.due("hits(0, 4, 5), one step too few", hall.hits(0, 4, 5), 0);
        Check.due("hits(0, 5, 5)", hall.hits(0, 5, 5), 32);
        ChanceHall line = Halls.staying(2, 1);
        Check.due("hits(0, 0, 1), without steps", line.hits(0, 0, 1), 0);
        line.lead(0, 0, 1);
        Check.due("hits(0, 1, 1)", line.hits(0, 1, 1), 1);
    }

    private static void statesOfHits() {
        Halls.eachState("hits(_, 2, 0)", (hall, from) -> hall.hits(from, 2, 0), (chain, from) -> chain.hits(from, 2, 0));
    }

    private static void stepsOfHits() {
        Halls.leastAndMost("hits(0, _, 0)", 0, 12, (hall, steps) -> hall.hits(0, steps, 0),
            (chain, steps) -> counted(chain).hits(0, steps, 0));
        Halls.leastAndMost("hits(0, _, last)", 0, 12, (hall, steps) -> hall.hits(0, steps, Halls.lastState(hall)),
            (chain, steps) -> counted(chain).hits(0, steps, chain.states - 1));
    }

    private static void statesOfHitsTo() {
        Halls.eachState("hits(0, 2, _)", (hall, to) -> hall.hits(0, 2, to), (chain, to) -> chain.hits(0, 2, to));
    }

    private static void noStateOfHits() {
        Halls.noState("hits(_, 1, 0)", (hall, from) -> hall.hits(from, 1, 0));
        Halls.noState("hits(0, 1, _)", (hall, to) -> hall.hits(0, 1, to));
        Halls.noState("hits(_, _, 0)", (hall, both) -> hall.hits(both, 0, both));
    }

    private static void noStepsOfHits() {
        Halls.noArgument("hits(0, _, 0)", 0, 12, (hall, steps) -> hall.hits(0, steps, 0));
    }
}
