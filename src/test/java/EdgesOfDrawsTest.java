/** Promises 22 and 23: each sentence that names an edge has a test of its own. */
public final class EdgesOfDrawsTest {
    private static final int MOST_SEED = 65520;

    public static void main(String[] args) {
        Edges edges = new Edges();
        edges.test(22, "- `from`: a state", EdgesOfDrawsTest::statesOfWalk);
        edges.test(22, "- `seed`: 0 to 65520", EdgesOfDrawsTest::seedsOfWalk);
        edges.test(22, "- `steps`: 0 to 1000", EdgesOfDrawsTest::stepsOfWalk);
        edges.test(22, "Throws `IndexOutOfBoundsException` if there is no such state", EdgesOfDrawsTest::noStateOfWalk);
        edges.test(22, "Throws `IllegalArgumentException` if seed or steps is out of range",
            EdgesOfDrawsTest::noSeedOrStepsOfWalk);
        edges.test(23, "- `seed`: 0 to 65520", EdgesOfDrawsTest::seedsOfDraw);
        edges.test(23, "Returns 6 times how many slots were drawn, and the state, together; -1 if 200 were not enough.",
            EdgesOfDrawsTest::slotsOfDraw);
        edges.test(23, "Throws `IllegalArgumentException` if seed is out of range", EdgesOfDrawsTest::noSeedOfDraw);
        edges.endOf(22, 23);
        Check.end();
    }

    private static void statesOfWalk() {
        Halls.eachState("walk(_, 7, 5)", (hall, from) -> hall.walk(from, 7, 5), (chain, from) -> chain.walk(from, 7, 5));
    }

    private static void seedsOfWalk() {
        Halls.leastAndMost("walk(0, _, 3)", 0, MOST_SEED, (hall, seed) -> hall.walk(0, seed, 3),
            (chain, seed) -> chain.walk(0, seed, 3));
    }

    private static void stepsOfWalk() {
        Halls.leastAndMost("walk(0, 7, _)", 0, 1000, (hall, steps) -> hall.walk(0, 7, steps),
            (chain, steps) -> chain.walk(0, 7, steps));
        ChanceHall hall = Halls.circle(6, 12);
        Check.due("walk(5, 0, 0), nowhere", hall.walk(5, 0, 0), 5);
        Check.due("walk(5, 0, 1)", hall.walk(5, 0, 1), 0);
        Check.due("walk(0, 0, 999) round the circle", hall.walk(0, 0, 999), 999 % 6);
        Check.due("walk(0, 0, 1000) round the circle", hall.walk(0, 0, 1000), 1000 % 6);
    }

    private static void noStateOfWalk() {
        Halls.noState("walk(_, 0, 1)", (hall, from) -> hall.walk(from, 0, 1));
        Halls.noState("walk(_, 0, 0)", (hall, from) -> hall.walk(from, 0, 0));
    }

    private static void noSeedOrStepsOfWalk() {
        Halls.noArgument("walk(0, _, 1)", 0, MOST_SEED, (hall, seed) -> hall.walk(0, seed, 1));
        Halls.noArgument("walk(0, _, 0)", 0, MOST_SEED, (hall, seed) -> hall.walk(0, seed, 0));
        Halls.noArgument("walk(0, 0, _)", 0, 1000, (hall, steps) -> hall.walk(0, 0, steps));
    }

    private static void seedsOfDraw() {
        Halls.leastAndMost("draw(_)", 0, MOST_SEED, (hall, seed) -> hall.draw(seed), (chain, seed) -> chain.draw(seed));
    }

    /** One slot of twelve leads down, one up, the others nowhere: that takes long. Another program found the seeds. */
    private static void slotsOfDraw() {
        ChanceHall hall = Halls.staying(6, 12);
        Oracle chain = new Oracle(6, 12);
        for (int state = 0; state < 6; state++) {
            chain.goesTo[state][0] = Math.max(state - 1, 0);
            chain.goesTo[state][1] = Math.min(state + 1, 5);
            hall.lead(state, 0, chain.goesTo[state][0]);
            hall.lead(state, 1, chain.goesTo[state][1]);
        }
        Check.due("draw(6504) by 199 slots", hall.draw(6504), 6 * 199 + 3);
        Check.due("draw(1564) by 200 slots", hall.draw(1564), 6 * 200 + 4);
        Check.due("draw(445), which needs 201", hall.draw(445), -1);
        for (int seed : new int[] {0, 445, 687, 1564, 3284, 6504, MOST_SEED}) {
            Check.due("draw(" + seed + ")", hall.draw(seed), chain.draw(seed));
        }
        ChanceHall one = Halls.staying(6, 1);
        Halls.leadAll(one, 5, 1, 0);
        Check.due("draw(0) that never falls together", one.draw(0), -1);
        for (int state = 0; state < 6; state++) {
            one.lead(state, 0, 5);
        }
        Check.due("draw(0) by one slot to the last state", one.draw(0), 6 + 5);
        Check.due("draw(0) of one state, by none", Halls.staying(1, 12).draw(0), 0);
    }

    private static void noSeedOfDraw() {
        Halls.noArgument("draw(_)", 0, MOST_SEED, (hall, seed) -> hall.draw(seed));
    }
}
