/** Promises 16 to 21: each sentence that names an edge has a test of its own. */
public final class EdgesOfClassesTest {
    private static final String STATE = "- `state`: a state";
    private static final String NO_STATE = "Throws `IndexOutOfBoundsException` if there is no such state";

    public static void main(String[] args) {
        Edges edges = new Edges();
        edges.test(16, STATE, EdgesOfClassesTest::statesOfReach);
        edges.test(16, "Returns the states, as a set, itself with them.", EdgesOfClassesTest::reachesItself);
        edges.test(16, NO_STATE, EdgesOfClassesTest::noStateOfReach);
        edges.test(17, "Returns how many closed classes there are.", EdgesOfClassesTest::closedFewAndMany);
        edges.test(18, STATE, EdgesOfClassesTest::statesOfPeriod);
        edges.test(18, "Returns the period.", EdgesOfClassesTest::periodsOfCircles);
        edges.test(18, NO_STATE, EdgesOfClassesTest::noStateOfPeriod);
        testRest(edges);
        edges.test(21, "- `rank`: 0 for the one with the greatest rest, of several the lowest",
            EdgesOfClassesTest::ranksOfRanked);
        edges.test(21, "Returns the state; -1 if there are not so many.", EdgesOfClassesTest::ranksOfNone);
        edges.test(21, "Throws `IndexOutOfBoundsException` if rank is below 0", EdgesOfClassesTest::noRank);
        edges.endOf(16, 21);
        Check.end();
    }

    private static void testRest(Edges edges) {
        edges.test(19, "- `state`: a state, or -1 for the whole rest", EdgesOfClassesTest::statesOfRest);
        edges.test(19, "Returns the rest.", EdgesOfClassesTest::restsLeastAndMost);
        edges.test(19, NO_STATE, EdgesOfClassesTest::noStateOfRest);
        edges.test(20, STATE, EdgesOfClassesTest::statesOfShare);
        edges.test(20, "its rest, as a float, by the whole one, as a float.", EdgesOfClassesTest::sharesLeastAndMost);
        edges.test(20, NO_STATE, EdgesOfClassesTest::noStateOfShare);
        edges.test(20, "Throws `IllegalStateException` if the whole rest is 0", EdgesOfClassesTest::noWholeRest);
    }

    private static void statesOfReach() {
        Halls.eachState("reach(_)", (hall, state) -> hall.reach(state), (chain, state) -> chain.reach(state));
    }

    private static void reachesItself() {
        Check.due("reach(0) of one state", Halls.staying(1, 1).reach(0), 1);
        Check.due("reach(5) of what stays", Halls.staying(6, 12).reach(5), 32);
        ChanceHall hall = Halls.staying(2, 1);
        hall.lead(0, 0, 1);
        Check.due("reach(0), to which no step leads", hall.reach(0), 3);
        Check.due("reach(1) back to none", hall.reach(1), 2);
        Check.due("reach(5) of a full circle", Halls.circle(6, 1).reach(5), 63);
    }

    private static void noStateOfReach() {
        Halls.noState("reach(_)", (hall, state) -> hall.reach(state));
    }

    private static void closedFewAndMany() {
        Check.due("closed() of one state", Halls.staying(1, 12).closed(), 1);
        Check.due("closed() of six that stay", Halls.staying(6, 12).closed(), 6);
        Check.due("closed() of six in a circle", Halls.circle(6, 12).closed(), 1);
        ChanceHall hall = Halls.staying(6, 1);
        for (int state = 0; state < 5; state++) {
            hall.lead(state, 0, state + 1);
        }
        Check.due("closed() of a line to one that stays", hall.closed(), 1);
        hall.lead(5, 0, 4);
        Check.due("closed() of a line to the last two", hall.closed(), 1);
        hall.lead(0, 0, 0);
        Check.due("closed() of the first that stays and the last two", hall.closed(), 2);
    }

    private static void statesOfPeriod() {
        Halls.eachState("period(_)", (hall, state) -> hall.period(state), (chain, state) -> chain.period(state));
    }

    private static void periodsOfCircles() {
        for (int states = 1; states <= 6; states++) {
            ChanceHall hall = Halls.circle(states, 12);
            Check.due("period(0) of a circle of " + states, hall.period(0), states);
            hall.lead(states - 1, 11, states - 1);
            Check.due("period(0) of a circle of " + states + " with one slot that stays", hall.period(0), 1);
        }
        ChanceHall hall = Halls.staying(2, 1);
        hall.lead(0, 0, 1);
        Check.due("period(0) without a way back", hall.period(0), 0);
    }

    private static void noStateOfPeriod() {
        Halls.noState("period(_)", (hall, state) -> hall.period(state));
    }

    private static void statesOfRest() {
        Halls.eachState("rest(_)", (hall, state) -> hall.rest(state), (chain, state) -> chain.rest(state));
        for (Oracle chain : Halls.chains()) {
            long whole = 0;
            for (int state = 0; state < chain.states; state++) {
                whole += chain.rest(state);
            }
            Check.due("rest(-1) of " + chain.states + " states", Halls.like(chain).rest(ChanceHall.NONE), whole);
        }
    }

    /** One state has one tree, with no weights to multiply; a state of six has at most 12 to the power of 5 by its trees. */
    private static void restsLeastAndMost() {
        Check.due("rest(0) of one state", Halls.staying(1, 12).rest(0), 1);
        Check.due("rest(-1) of one state", Halls.staying(1, 12).rest(-1), 1);
        Check.due("rest(5) of what stays", Halls.staying(6, 12).rest(5), 0);
        Check.due("rest(-1) of what stays", Halls.staying(6, 12).rest(-1), 0);
        Check.due("rest(0) of a circle by all slots", Halls.circle(6, 12).rest(0), 248832);
        Check.due("rest(-1) of a circle by all slots", Halls.circle(6, 12).rest(-1), 6 * 248832);
        ChanceHall hall = Halls.staying(6, 12);
        for (int state = 1; state < 6; state++) {
            Halls.leadAll(hall, state, 12, 0);
        }
        Check.due("rest(0) of what all lead to", hall.rest(0), 248832);
        Check.due("rest(5) of what none leads to", hall.rest(5), 0);
        Check.due("rest(-1) of what all lead to", hall.rest(-1), 248832);
    }

    private static void noStateOfRest() {
        for (Oracle chain : Halls.chains()) {
            for (int state : new int[] {-2, -3, chain.states, 6, 7, Integer.MIN_VALUE, Integer.MAX_VALUE}) {
                Halls.refuseOne(chain, "rest(" + state + ")", IndexOutOfBoundsException.class, hall -> hall.rest(state));
            }
        }
    }

    /** Chains of one closed class, or the call would not be possible. */
    private static void statesOfShare() {
        for (int states = 1; states <= 6; states++) {
            ChanceHall hall = Halls.circle(states, 2);
            Check.dueFloat("share(0) of " + states, hall.share(0), 1f / states);
            Check.dueFloat("share(last) of " + states, hall.share(states - 1), 1f / states);
        }
    }

    private static void sharesLeastAndMost() {
        ChanceHall hall = Halls.staying(2, 12);
        Halls.leadAll(hall, 0, 12, 1);
        Check.dueFloat("share(0), none", hall.share(0), 0f);
        Check.dueFloat("share(1), all", hall.share(1), 1f);
        hall.lead(0, 0, 0);
        hall.lead(1, 0, 0);
        Check.dueFloat("share(0), one by twelve", hall.share(0), 1f / 12f);
        Check.dueFloat("share(1), eleven by twelve", hall.share(1), 11f / 12f);
    }

    private static void noStateOfShare() {
        Halls.noState("share(_)", (hall, state) -> hall.share(state) > 0f ? 1 : 0);
    }

    private static void noWholeRest() {
        for (int states = 2; states <= 6; states++) {
            Oracle staying = new Oracle(states, 12);
            int last = states - 1;
            Halls.refuseOne(staying, "share(0)", IllegalStateException.class, hall -> hall.share(0));
            Halls.refuseOne(staying, "share(last)", IllegalStateException.class, hall -> hall.share(last));
            Halls.refuseOne(staying, "share of no state", IndexOutOfBoundsException.class, hall -> hall.share(last + 1));
            Halls.refuseOne(staying, "share(-1)", IndexOutOfBoundsException.class, hall -> hall.share(-1));
        }
        Check.dueFloat("share(0) of one state", Halls.staying(1, 1).share(0), 1f);
    }

    private static void ranksOfRanked() {
        for (int states = 1; states <= 6; states++) {
            ChanceHall hall = Halls.circle(states, 1);
            for (int rank = 0; rank < states; rank++) {
                Check.due("ranked(" + rank + ") of rests that are the same", hall.ranked(rank), rank);
            }
        }
        ChanceHall hall = Halls.staying(6, 1);
        for (int state = 0; state < 5; state++) {
            hall.lead(state, 0, 5);
        }
        Check.due("ranked(0), the last alone has a rest", hall.ranked(0), 5);
        Check.due("ranked(1), the lowest of those without", hall.ranked(1), 0);
        Check.due("ranked(5), the highest of those without", hall.ranked(5), 4);
        Check.due("ranked(0) where all rests are 0", Halls.staying(6, 1).ranked(0), 0);
    }

    private static void ranksOfNone() {
        for (int states = 1; states <= 6; states++) {
            ChanceHall hall = Halls.staying(states, 1);
            Check.due("ranked(" + (states - 1) + ") of " + states, hall.ranked(states - 1), states - 1);
            Check.due("ranked(" + states + ") of as many", hall.ranked(states), -1);
            Check.due("ranked(6) of " + states, hall.ranked(6), -1);
            Check.due("ranked(most) of " + states, hall.ranked(Integer.MAX_VALUE), -1);
        }
    }

    private static void noRank() {
        for (Oracle chain : Halls.chains()) {
            for (int rank : new int[] {-1, -2, Integer.MIN_VALUE}) {
                Halls.refuseOne(chain, "ranked(" + rank + ")", IndexOutOfBoundsException.class, hall -> hall.ranked(rank));
            }
        }
    }
}
