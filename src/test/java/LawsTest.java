/** Promises 8 to 15: laws, distances, walkers and crowds by the same word, hits. */
public final class LawsTest {
    private static final long MOST_WORDS = 8916100448256L;

    public static void main(String[] args) {
        words();
        law();
        lawAnew();
        distance();
        mixing();
        apart();
        together();
        hits();
        Check.end();
    }

    /** From 0 one slot goes on to 1 and one stays; from 1 both go on to 2; 2 stays. */
    private static ChanceHall line() {
        ChanceHall hall = new ChanceHall();
        hall.begin(3, 2);
        hall.lead(0, 0, 1);
        hall.lead(1, 0, 2);
        hall.lead(1, 1, 2);
        return hall;
    }

    private static void words() {
        ChanceHall hall = new ChanceHall();
        hall.begin(2, 12);
        Check.due("words(0)", hall.words(0), 1);
        Check.due("words(1)", hall.words(1), 12);
        Check.due("words(12)", hall.words(12), MOST_WORDS);
        hall.begin(2, 1);
        Check.due("words(12) of one slot", hall.words(12), 1);
        Check.dueArgument("words(-1)", () -> hall.words(-1));
        Check.dueArgument("words(13)", () -> hall.words(13));
        Check.dueArgument("words(most)", () -> hall.words(Integer.MAX_VALUE));
        Check.dueArgument("words(least)", () -> hall.words(Integer.MIN_VALUE));
    }

    private static void law() {
        ChanceHall hall = line();
        Check.due("law(0, 0, 0)", hall.law(0, 0, 0), 1);
        Check.due("law(0, 0, 1)", hall.law(0, 0, 1), 0);
        Check.due("law(0, 2, 0)", hall.law(0, 2, 0), 1);
        Check.due("law(0, 2, 1)", hall.law(0, 2, 1), 1);
        Check.due("law(0, 2, 2)", hall.law(0, 2, 2), 2);
        Check.due("law(2, 2, 0)", hall.law(2, 2, 0), 0);
        Check.due("law(0, 12, 2)", hall.law(0, 12, 2), 4094);
        hall.begin(6, 12);
        Check.due("law(5, 12, 5)", hall.law(5, 12, 5), MOST_WORDS);
        wrongLaw();
    }

    private static void wrongLaw() {
        ChanceHall hall = line();
        Check.dueArgument("law(0, 13, 0)", () -> hall.law(0, 13, 0));
        Check.dueArgument("law(0, -1, 0)", () -> hall.law(0, -1, 0));
        Check.dueIndex("law(3, 0, 0)", () -> hall.law(3, 0, 0));
        Check.dueIndex("law(-1, 0, 0)", () -> hall.law(-1, 0, 0));
        Check.dueIndex("law(0, 0, 3)", () -> hall.law(0, 0, 3));
        Check.dueIndex("law(0, 0, -1)", () -> hall.law(0, 0, -1));
        Check.dueIndex("law(0, 13, 3)", () -> hall.law(0, 13, 3));
        Check.dueIndex("law(3, -1, 0)", () -> hall.law(3, -1, 0));
    }

    private static void lawAnew() {
        ChanceHall hall = line();
        Check.due("lawAnew(0, 0, 0)", hall.lawAnew(0, 0, 0), 1);
        Check.due("lawAnew(0, 0, 1)", hall.lawAnew(0, 0, 1), 0);
        Check.due("lawAnew(0, 4, 2)", hall.lawAnew(0, 4, 2), 14);
        Check.due("lawAnew(0, 4, 1)", hall.lawAnew(0, 4, 1), 1);
        Check.dueArgument("lawAnew(0, 5, 0)", () -> hall.lawAnew(0, 5, 0));
        Check.dueArgument("lawAnew(0, -1, 0)", () -> hall.lawAnew(0, -1, 0));
        Check.dueIndex("lawAnew(3, 0, 0)", () -> hall.lawAnew(3, 0, 0));
        Check.dueIndex("lawAnew(-1, 5, 0)", () -> hall.lawAnew(-1, 5, 0));
        Check.dueIndex("lawAnew(0, 0, 3)", () -> hall.lawAnew(0, 0, 3));
        Check.dueIndex("lawAnew(0, 5, -1)", () -> hall.lawAnew(0, 5, -1));
        hall.begin(6, 12);
        Check.due("lawAnew(3, 4, 3) of 12 slots", hall.lawAnew(3, 4, 3), 20736);
    }

    private static void distance() {
        ChanceHall hall = line();
        Check.due("distance(0, 2, 0)", hall.distance(0, 2, 0), 1);
        Check.due("distance(0, 0, 12)", hall.distance(0, 0, 12), 0);
        Check.due("distance(0, 1, 1)", hall.distance(0, 1, 1), 2);
        Check.due("distance(0, 2, 2)", hall.distance(0, 2, 2), 2);
        Check.due("distance(2, 0, 2)", hall.distance(2, 0, 2), 2);
        Check.due("distance(1, 2, 1)", hall.distance(1, 2, 1), 0);
        Check.dueArgument("distance(0, 0, 13)", () -> hall.distance(0, 0, 13));
        Check.dueArgument("distance(0, 1, -1)", () -> hall.distance(0, 1, -1));
        Check.dueIndex("distance(3, 0, 0)", () -> hall.distance(3, 0, 0));
        Check.dueIndex("distance(0, 3, 13)", () -> hall.distance(0, 3, 13));
        Check.dueIndex("distance(-1, 0, 0)", () -> hall.distance(-1, 0, 0));
        Check.dueIndex("distance(0, -1, 0)", () -> hall.distance(0, -1, 0));
        hall.begin(2, 12);
        Check.due("distance of what never meets", hall.distance(0, 1, 12), MOST_WORDS);
    }

    private static void mixing() {
        ChanceHall hall = line();
        Check.due("mixing(1000)", hall.mixing(1000), 0);
        Check.due("mixing(999)", hall.mixing(999), 2);
        Check.due("mixing(500)", hall.mixing(500), 2);
        Check.due("mixing(499)", hall.mixing(499), 3);
        Check.due("mixing(125)", hall.mixing(125), 4);
        Check.due("mixing(124)", hall.mixing(124), 5);
        Check.due("mixing(1)", hall.mixing(1), 11);
        Check.due("mixing(0)", hall.mixing(0), -1);
        Check.dueArgument("mixing(1001)", () -> hall.mixing(1001));
        Check.dueArgument("mixing(-1)", () -> hall.mixing(-1));
        hall.begin(1, 12);
        Check.due("mixing(0) of one state", hall.mixing(0), 0);
        hall.begin(6, 12);
        Check.due("mixing(999) of what stays", hall.mixing(999), -1);
        Check.due("mixing(1000) of what stays", hall.mixing(1000), 0);
        mixingBehindTwelve();
    }

    /** The distance behind k steps is all words less what went on, 11 to the power of k: it is 352 thousandths behind 12. */
    private static void mixingBehindTwelve() {
        ChanceHall hall = new ChanceHall();
        hall.begin(2, 12);
        hall.lead(0, 0, 1);
        Check.due("distance by elevens", hall.distance(0, 1, 12), 3138428376721L);
        Check.due("mixing at 12 steps", hall.mixing(352), 12);
        Check.due("mixing just not at 12 steps", hall.mixing(351), -1);
    }

    private static void apart() {
        ChanceHall hall = new ChanceHall();
        hall.begin(2, 2);
        hall.lead(0, 0, 1);
        hall.lead(1, 1, 0);
        Check.due("apart(0, 1, 0)", hall.apart(0, 1, 0), 1);
        Check.due("apart(1, 1, 0)", hall.apart(1, 1, 0), 0);
        Check.due("apart(0, 1, 1)", hall.apart(0, 1, 1), 0);
        hall.swap(1, 0, 1);
        Check.due("apart(0, 1, 12) of an exchange", hall.apart(0, 1, 12), 4096);
        Check.due("apart(0, 0, 12)", hall.apart(0, 0, 12), 0);
        meetByOneSlot();
        Check.dueArgument("apart(0, 1, 13)", () -> hall.apart(0, 1, 13));
        Check.dueArgument("apart(0, 0, -1)", () -> hall.apart(0, 0, -1));
        Check.dueIndex("apart(2, 0, 0)", () -> hall.apart(2, 0, 0));
        Check.dueIndex("apart(0, 2, 13)", () -> hall.apart(0, 2, 13));
        Check.dueIndex("apart(-1, 0, 0)", () -> hall.apart(-1, 0, 0));
        Check.dueIndex("apart(0, -1, 0)", () -> hall.apart(0, -1, 0));
    }

    /** Slot 0 leads all to 0, slot 1 leaves each where it is. */
    private static void meetByOneSlot() {
        ChanceHall hall = new ChanceHall();
        hall.begin(3, 2);
        hall.lead(1, 0, 0);
        hall.lead(2, 0, 0);
        Check.due("apart(1, 2, 1)", hall.apart(1, 2, 1), 1);
        Check.due("apart(1, 2, 12)", hall.apart(1, 2, 12), 1);
    }

    private static void together() {
        ChanceHall hall = new ChanceHall();
        hall.begin(3, 2);
        hall.lead(0, 0, 1);
        hall.lead(1, 0, 2);
        Check.due("together(0, 0)", hall.together(0, 0), 0);
        Check.due("together(1, 2)", hall.together(1, 2), 0);
        Check.due("together(2, 2)", hall.together(2, 2), 1);
        Check.due("together(3, 2)", hall.together(3, 2), 4);
        Check.due("together(3, 0)", hall.together(3, 0), 0);
        Check.due("together(12, 2)", hall.together(12, 2), 4083);
        Check.dueArgument("together(13, 0)", () -> hall.together(13, 0));
        Check.dueArgument("together(-1, 0)", () -> hall.together(-1, 0));
        Check.dueIndex("together(0, 3)", () -> hall.together(0, 3));
        Check.dueIndex("together(13, -1)", () -> hall.together(13, -1));
        hall.begin(1, 12);
        Check.due("together(0, 0) of one state", hall.together(0, 0), 1);
        Check.due("together(12, 0) of one state", hall.together(12, 0), MOST_WORDS);
        togetherOfMoreStates();
    }

    /** The smaller crowd of the chain that was there ahead is no longer in. */
    private static void togetherOfMoreStates() {
        ChanceHall hall = new ChanceHall();
        for (int states = 1; states <= 6; states++) {
            hall.begin(states, 2);
            Check.due("together(0, 0) of " + states + " states", hall.together(0, 0), states == 1 ? 1 : 0);
            Check.due("together(4, 0) of " + states + " states", hall.together(4, 0), states == 1 ? 16 : 0);
        }
    }

    private static void hits() {
        ChanceHall hall = line();
        Check.due("hits(0, 0, 0)", hall.hits(0, 0, 0), 1);
        Check.due("hits(0, 0, 1)", hall.hits(0, 0, 1), 0);
        Check.due("hits(0, 1, 0)", hall.hits(0, 1, 0), 2);
        Check.due("hits(0, 3, 1)", hall.hits(0, 3, 1), 7);
        Check.due("hits(0, 3, 2)", hall.hits(0, 3, 2), 6);
        Check.due("hits(2, 12, 0)", hall.hits(2, 12, 0), 0);
        Check.due("hits(1, 1, 2)", hall.hits(1, 1, 2), 2);
        Check.dueArgument("hits(0, 13, 0)", () -> hall.hits(0, 13, 0));
        Check.dueArgument("hits(0, -1, 0)", () -> hall.hits(0, -1, 0));
        Check.dueIndex("hits(3, 0, 0)", () -> hall.hits(3, 0, 0));
        Check.dueIndex("hits(0, 0, 3)", () -> hall.hits(0, 0, 3));
        Check.dueIndex("hits(-1, 13, 0)", () -> hall.hits(-1, 13, 0));
        Check.dueIndex("hits(0, -1, -1)", () -> hall.hits(0, -1, -1));
        hall.begin(6, 12);
        Check.due("hits(4, 12, 4) of 12 slots", hall.hits(4, 12, 4), MOST_WORDS);
    }
}
