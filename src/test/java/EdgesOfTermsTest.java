/** What the document says ahead of promise 1: each sentence that names an edge has a test of its own. */
public final class EdgesOfTermsTest {
    private static final long MOST_WORDS = 8916100448256L;
    private static final int SEEDS = 65521;

    public static void main(String[] args) {
        Edges edges = new Edges();
        EdgesOfCalls.testAll(edges);
        edges.test(Edges.TERMS, "The constants: `NONE = -1`: None.", EdgesOfTermsTest::none);
        testChain(edges);
        testLaws(edges);
        testClasses(edges);
        testDraws(edges);
        testGames(edges);
        edges.endOfTerms();
        Check.end();
    }

    private static void testChain(Edges edges) {
        edges.test(Edges.TERMS, "There are the states 0 to 5 at most, and the slots 0 to 11 at most; a chain has 1 to 6 "
            + "states and 1 to 12 slots.", EdgesOfTermsTest::allSizes);
        edges.test(Edges.TERMS, "at first each state goes on to itself", EdgesOfTermsTest::atFirstToItself);
        edges.test(Edges.TERMS, "The weight from a state to another one (or itself) is how many slots lead there.",
            EdgesOfTermsTest::weightsToItself);
        edges.test(Edges.TERMS, "A step goes by one slot, and each slot is as good as another one; a word of some steps are "
            + "that many slots, one behind the other.", EdgesOfTermsTest::wordsOfNoAndOneSlot);
        edges.test(Edges.TERMS, "a chance is the count by all words of that many steps, the number of slots to the power "
            + "of the steps.", EdgesOfTermsTest::powersOfSlots);
    }

    private static void testLaws(Edges edges) {
        edges.test(Edges.TERMS, "The law of a state behind some steps is, for each state, how many words lead there.",
            EdgesOfTermsTest::lawsTakeAllWords);
        edges.test(Edges.TERMS, "of what the law of the first one is above that of the second one, where it is.",
            EdgesOfTermsTest::justWhatIsAbove);
        edges.test(Edges.TERMS, "if for each two states 1000 times their distance is at most the thousandths times all "
            + "words.", EdgesOfTermsTest::mixedAtMost);
        edges.test(Edges.TERMS, "Two walkers go by the same word.", EdgesOfTermsTest::walkersOfOneWord);
        edges.test(Edges.TERMS, "if they have not been in one state ahead of any step of it or behind it.",
            EdgesOfTermsTest::metAheadOrBehind);
        edges.test(Edges.TERMS, "A crowd is in all states at first", EdgesOfTermsTest::crowdAtFirst);
        edges.test(Edges.TERMS, "it has fallen together behind a word if all are in one state.",
            EdgesOfTermsTest::fallenButOne);
    }

    private static void testClasses(Edges edges) {
        edges.test(Edges.TERMS, "A state reaches another one if some word, of no steps too, leads there.",
            EdgesOfTermsTest::reachedByAnyWord);
        edges.test(Edges.TERMS, "A closed class is a state, with all that it reaches, if each of these reaches it.",
            EdgesOfTermsTest::closedIfEachReachesIt);
        edges.test(Edges.TERMS, "by which all numbers of steps, 1 or more, can be divided, for which a word leads back to "
            + "it; 0 if there is none.", EdgesOfTermsTest::periodOfOneOrMore);
        edges.test(Edges.TERMS, "A tree of a state gives each other one state to go on to, such that going on and on "
            + "leads to it from all.", EdgesOfTermsTest::treesOfOneAndTwo);
        edges.test(Edges.TERMS, "Its weight is the product of the weights from each other one to that.",
            EdgesOfTermsTest::treesWithAWeightOfNone);
        edges.test(Edges.TERMS, "it is 0 just if there are several closed classes.", EdgesOfTermsTest::noRestOfSeveral);
        edges.test(Edges.TERMS, "A set of states is told as the sum of 2 to the power of each.",
            EdgesOfTermsTest::setsLeastAndMost);
    }

    private static void testDraws(Edges edges) {
        edges.test(Edges.TERMS, "Draws come from a seed, 0 to 65520: it becomes (7919 times it, and 12345, together) "
            + "modulo 65521;", EdgesOfTermsTest::seedsGoRound);
        edges.test(Edges.TERMS, "the remainder of that by the slots is the slot drawn, and so on.",
            EdgesOfTermsTest::remaindersOfSlots);
        edges.test(Edges.TERMS, "A walk goes on by the first slot drawn, then the second one, and so on.",
            EdgesOfTermsTest::firstSlotFirst);
        edges.test(Edges.TERMS, "the first slot drawn is that of the last step, the second one that of the step ahead of "
            + "it, and so on, each time one more", EdgesOfTermsTest::firstSlotLast);
        edges.test(Edges.TERMS, "has fallen together, at most 200; where it is, is the draw",
            EdgesOfTermsTest::drawnAtMost);
        edges.test(Edges.TERMS, "(with one state none is drawn)", EdgesOfTermsTest::noneIsDrawn);
    }

    private static void testGames(Edges edges) {
        edges.test(Edges.TERMS, "Each state has a pay, -100000 to 100000, 0 at first.", EdgesOfTermsTest::paysAtFirst);
        edges.test(Edges.TERMS, "less the slots times its own pay", EdgesOfTermsTest::driftOfWhatStays);
        edges.test(Edges.TERMS, "the game is fair if all drifts are 0.", EdgesOfTermsTest::fairIfAllAre);
        edges.test(Edges.TERMS, "the best of a state with no steps is its pay", EdgesOfTermsTest::bestWithoutSteps);
        edges.test(Edges.TERMS, "with one more step it is the greater one of the pay times all words of as many steps as "
            + "are left, and the sum over all slots of the best of the state to which it goes on with one step fewer.",
            EdgesOfTermsTest::bestByOneMoreStep);
        edges.test(Edges.TERMS, "It stops there, if the former is not less.", EdgesOfTermsTest::stopsIfNotLess);
        edges.test(Edges.TERMS, "The chain reverses, if the whole rest is not 0", EdgesOfTermsTest::noReverseWithoutRest);
        edges.test(Edges.TERMS, "for each two states the rest of the one times the weight from it to the other one is "
            + "that the other way round.", EdgesOfTermsTest::reversesByEachTwo);
        edges.test(Edges.TERMS, "Each state has a colour, 0 to 5, 0 at first.", EdgesOfTermsTest::coloursAtFirst);
        edges.test(Edges.TERMS, "if for each two states of one colour the weights to all states of a colour are together "
            + "the same, for each colour.", EdgesOfTermsTest::lumpedByEachTwo);
    }

    private static void none() {
        Check.due("NONE", ChanceHall.NONE, -1);
        Check.due("ranked(1) of one state", Halls.staying(1, 1).ranked(1), ChanceHall.NONE);
        Check.due("mixing(0) of two that stay", Halls.staying(2, 1).mixing(0), ChanceHall.NONE);
        Check.due("draw(0) of two that stay", Halls.staying(2, 1).draw(0), ChanceHall.NONE);
    }

    private static void allSizes() {
        for (int states = 1; states <= 6; states++) {
            for (int slots = 1; slots <= 12; slots++) {
                int tooMany = states;
                int tooManySlots = slots;
                ChanceHall hall = Halls.circle(states, slots);
                Check.due("lead of the last state by the last slot", hall.lead(states - 1, slots - 1, 0), 0);
                Check.due("words(1)", hall.words(1), slots);
                Check.due("reach(0)", hall.reach(0), (1 << states) - 1);
                Check.dueIndex("one state too many", () -> hall.lead(tooMany, 0, 0));
                Check.dueIndex("one state too many to lead to", () -> hall.lead(0, 0, tooMany));
                Check.dueIndex("one slot too many", () -> hall.lead(0, tooManySlots, 0));
            }
        }
    }

    private static void atFirstToItself() {
        for (Oracle chain : Halls.chains()) {
            ChanceHall hall = Halls.staying(chain.states, chain.slots);
            for (int state = 0; state < chain.states; state++) {
                Check.due("walk from " + state, hall.walk(state, 1, 1000), state);
                Check.due("law behind 12 steps", hall.law(state, 12, state), chain.words(12));
                Check.due("lead by the last slot", hall.lead(state, chain.slots - 1, state), state);
            }
        }
    }

    private static void weightsToItself() {
        ChanceHall hall = Halls.staying(3, 4);
        hall.lead(1, 0, 0);
        hall.lead(1, 3, 2);
        Check.due("weight(1, 1), two that stay", hall.weight(1, 1), 2);
        Check.due("weight(1, 0)", hall.weight(1, 0), 1);
        Check.due("weight(0, 1), none", hall.weight(0, 1), 0);
        hall.lead(1, 0, 1);
        hall.lead(1, 3, 1);
        Check.due("weight(1, 1), all", hall.weight(1, 1), 4);
    }

    private static void wordsOfNoAndOneSlot() {
        ChanceHall hall = Halls.staying(2, 12);
        for (int slot = 0; slot < 12; slot++) {
            hall.lead(0, slot, 1);
            Check.due("law(0, 0, 1), whatever slot leads there", hall.law(0, 0, 1), 0);
            Check.due("law(0, 1, 1) by slot " + slot, hall.law(0, 1, 1), 1);
            Check.due("lawAnew(0, 1, 1) by slot " + slot, hall.lawAnew(0, 1, 1), 1);
            Check.due("law(0, 2, 1) by slot " + slot, hall.law(0, 2, 1), 12 + 11);
            hall.lead(0, slot, 0);
        }
    }

    private static void powersOfSlots() {
        for (int slots = 1; slots <= 12; slots++) {
            ChanceHall hall = Halls.staying(1, slots);
            long power = 1;
            for (int steps = 0; steps <= 12; steps++) {
                Check.due("words(" + steps + ") of " + slots + " slots", hall.words(steps), power);
                Check.due("law(0, " + steps + ", 0) of " + slots + " slots", hall.law(0, steps, 0), power);
                power = Math.multiplyExact(power, slots);
            }
        }
    }

    private static void lawsTakeAllWords() {
        for (Oracle chain : Halls.chains()) {
            ChanceHall hall = Halls.like(chain);
            for (int steps = 0; steps <= 12; steps += 4) {
                long sum = 0;
                for (int to = 0; to < chain.states; to++) {
                    sum += hall.law(0, steps, to);
                }
                Check.due("laws behind " + steps + " steps together", sum, chain.words(steps));
            }
        }
    }

    /** What is below must not be taken away: the laws are 1, 3, 0 and 0, 2, 2 of four words. */
    private static void justWhatIsAbove() {
        ChanceHall hall = Halls.staying(3, 4);
        Halls.leadAll(hall, 0, 3, 1);
        Halls.leadAll(hall, 1, 2, 2);
        Check.due("distance(0, 1, 1)", hall.distance(0, 1, 1), 1 + 1);
        Check.due("distance(1, 0, 1)", hall.distance(1, 0, 1), 2);
        Check.due("distance(2, 2, 1), nowhere above", hall.distance(2, 2, 1), 0);
        Check.due("distance(0, 1, 0), all above", hall.distance(0, 1, 0), 1);
    }

    /** The distance is 1 of 2, 1 of 4, 1 of 8.. words: 125 thousandths are just reached, 124 are not. */
    private static void mixedAtMost() {
        ChanceHall hall = Halls.staying(2, 2);
        hall.lead(0, 0, 1);
        Check.due("mixing(500), just reached", hall.mixing(500), 1);
        Check.due("mixing(499)", hall.mixing(499), 2);
        Check.due("mixing(125), just reached", hall.mixing(125), 3);
        Check.due("mixing(124)", hall.mixing(124), 4);
        Check.due("mixing(0) of one state, with no two", Halls.staying(1, 12).mixing(0), 0);
        for (int one = 0; one < 6; one++) {
            for (int other = one + 1; other < 6; other++) {
                justTwoAreFar(one, other);
            }
        }
    }

    /** These two stay, and the others go on to both: all but these two are no further from each other than by half. */
    private static void justTwoAreFar(int one, int other) {
        ChanceHall hall = Halls.staying(6, 2);
        for (int state = 0; state < 6; state++) {
            if (state != one && state != other) {
                hall.lead(state, 0, one);
                hall.lead(state, 1, other);
            }
        }
        String two = ", but " + one + " and " + other + " are far";
        Check.due("mixing(999)" + two, hall.mixing(999), -1);
        hall.lead(other, 0, one);
        Check.due("mixing(500)" + two + " no longer", hall.mixing(500), 1);
    }

    private static void metAheadOrBehind() {
        ChanceHall hall = Halls.staying(3, 2);
        hall.lead(1, 0, 0);
        Check.due("apart(1, 1, 0), met ahead of all", hall.apart(1, 1, 0), 0);
        Check.due("apart(1, 1, 12), met ahead of all", hall.apart(1, 1, 12), 0);
        Check.due("apart(0, 1, 0), not met", hall.apart(0, 1, 0), 1);
        Check.due("apart(0, 1, 1), met behind it by one slot", hall.apart(0, 1, 1), 1);
        Check.due("apart(0, 1, 2), met ahead of the second too", hall.apart(0, 1, 2), 1);
        Check.due("apart(0, 2, 12), never met", hall.apart(0, 2, 12), 4096);
        ChanceHall exchange = Halls.circle(2, 12);
        Check.due("apart(0, 1, 12), changing places is no meeting", exchange.apart(0, 1, 12), MOST_WORDS);
    }

    /** The weights are the same, with the slots of one state exchanged or not: meeting by one word is not the same. */
    private static void walkersOfOneWord() {
        ChanceHall hall = Halls.staying(2, 2);
        hall.lead(0, 1, 1);
        hall.lead(1, 1, 0);
        Check.due("apart(0, 1, 12), of slots that never agree", hall.apart(0, 1, 12), 4096);
        hall.swap(1, 0, 1);
        Check.due("apart(0, 1, 1), of slots that agree", hall.apart(0, 1, 1), 0);
        Check.due("apart(0, 1, 12), of slots that agree", hall.apart(0, 1, 12), 0);
        Check.due("distance(0, 1, 1), however they agree", hall.distance(0, 1, 1), 0);
    }

    private static void crowdAtFirst() {
        for (int states = 1; states <= 6; states++) {
            ChanceHall hall = Halls.staying(states, 12);
            for (int to = 0; to < states; to++) {
                Check.due("together(0, " + to + ") of " + states, hall.together(0, to), states == 1 ? 1 : 0);
                Check.due("together(12, " + to + ") of " + states, hall.together(12, to), states == 1 ? MOST_WORDS : 0);
            }
        }
    }

    private static void fallenButOne() {
        ChanceHall hall = Halls.staying(6, 12);
        for (int state = 0; state < 5; state++) {
            Halls.leadAll(hall, state, 12, 4);
        }
        Check.due("together(12, 4), but the last stays", hall.together(12, 4), 0);
        Check.due("together(12, 5), where the last is alone", hall.together(12, 5), 0);
        hall.lead(5, 11, 4);
        Check.due("together(1, 4) by one slot", hall.together(1, 4), 1);
        Check.due("together(12, 4) by all words but those without it", hall.together(12, 4),
            MOST_WORDS - 3138428376721L);
    }

    private static void reachedByAnyWord() {
        ChanceHall hall = Halls.staying(6, 1);
        for (int state = 0; state < 5; state++) {
            hall.lead(state, 0, state + 1);
        }
        Check.due("reach(0) by words of 0 to 5 steps", hall.reach(0), 63);
        Check.due("reach(4)", hall.reach(4), 48);
        Check.due("reach(5) by no steps", hall.reach(5), 32);
    }

    private static void closedIfEachReachesIt() {
        ChanceHall hall = Halls.staying(3, 1);
        hall.lead(0, 0, 1);
        hall.lead(1, 0, 2);
        Check.due("closed() of a line", hall.closed(), 1);
        hall.lead(2, 0, 1);
        Check.due("closed() of a line to two", hall.closed(), 1);
        hall.lead(2, 0, 0);
        Check.due("closed() of all three", hall.closed(), 1);
        hall.lead(1, 0, 1);
        Check.due("closed() of two ways to one", hall.closed(), 1);
        hall.lead(0, 0, 0);
        Check.due("closed() of two that stay", hall.closed(), 2);
    }

    private static void periodOfOneOrMore() {
        Check.due("period(0) of one state, not of no steps", Halls.staying(1, 1).period(0), 1);
        Check.due("period(5) of a full circle", Halls.circle(6, 1).period(5), 6);
        ChanceHall hall = Halls.circle(6, 1);
        hall.lead(5, 0, 5);
        Check.due("period(0), no word back", hall.period(0), 0);
        Check.due("period(4), no word back", hall.period(4), 0);
        Check.due("period(5)", hall.period(5), 1);
        ChanceHall line = Halls.staying(6, 3);
        for (int state = 0; state < 6; state++) {
            Halls.leadAll(line, state, 3, Math.max(state - 1, 0));
            line.lead(state, 0, Math.min(state + 1, 5));
        }
        Halls.leadAll(line, 0, 3, 1);
        Check.due("period(0) of a line there and back, by 11 steps and 2", line.period(0), 1);
        line.lead(5, 0, 4);
        Check.due("period(0) of a line there and back that ends", line.period(0), 2);
    }

    private static void treesOfOneAndTwo() {
        Check.due("rest(0) of one state: one tree", Halls.staying(1, 12).rest(0), 1);
        ChanceHall hall = Halls.staying(2, 12);
        Halls.leadAll(hall, 0, 5, 1);
        Halls.leadAll(hall, 1, 7, 0);
        Check.due("rest(0) of two", hall.rest(0), 7);
        Check.due("rest(1) of two", hall.rest(1), 5);
        ChanceHall round = Halls.staying(3, 2);
        Halls.leadAll(round, 1, 2, 2);
        Halls.leadAll(round, 2, 2, 1);
        Check.due("rest(0), to which going on and on never leads", round.rest(0), 0);
        round.lead(2, 0, 0);
        Check.due("rest(0), to which it leads by one slot", round.rest(0), 2);
    }

    private static void treesWithAWeightOfNone() {
        ChanceHall hall = Halls.staying(6, 12);
        for (int state = 0; state < 5; state++) {
            Halls.leadAll(hall, state, 12, 5);
        }
        Check.due("rest(5) by full weights", hall.rest(5), 248832);
        hall.lead(4, 0, 4);
        Check.due("rest(5) with one slot less", hall.rest(5), 248832 / 12 * 11);
        Halls.leadAll(hall, 4, 12, 4);
        Check.due("rest(5) with a weight of none", hall.rest(5), 0);
    }

    /** All chains of 1 to 3 states and 2 slots. */
    private static void noRestOfSeveral() {
        for (int states = 1; states <= 3; states++) {
            int leads = 2 * states;
            for (int number = 0; number < Math.pow(states, leads); number++) {
                ChanceHall hall = Halls.staying(states, 2);
                int left = number;
                for (int lead = 0; lead < leads; lead++) {
                    hall.lead(lead / 2, lead % 2, left % states);
                    left /= states;
                }
                Check.due("chain " + number + " of " + states + ": whole rest of 0", hall.rest(-1) == 0,
                    hall.closed() > 1);
                Check.due("chain " + number + " of " + states + ": some class is closed", hall.closed() > 0, true);
            }
        }
    }

    private static void setsLeastAndMost() {
        ChanceHall staying = Halls.staying(6, 1);
        for (int state = 0; state < 6; state++) {
            Check.due("reach(" + state + ") of itself alone", staying.reach(state), 1 << state);
        }
        Check.due("reach(0) of all six", Halls.circle(6, 1).reach(0), 63);
    }

    /** By slot k of twelve each state goes on to k % 6. */
    private static ChanceHall tellingSlots() {
        ChanceHall hall = Halls.staying(6, 12);
        for (int state = 0; state < 6; state++) {
            for (int slot = 0; slot < 12; slot++) {
                hall.lead(state, slot, slot % 6);
            }
        }
        return hall;
    }

    /** The seeds that lead to 0 and to 65520, the last one that does not go round, and the first one that does. */
    private static void seedsGoRound() {
        ChanceHall hall = tellingSlots();
        int found = 0;
        for (int seed = 0; seed < SEEDS; seed++) {
            int next = (int) ((7919L * seed + 12345) % SEEDS);
            boolean atEnd = next == 0 || next == SEEDS - 1;
            if (atEnd || seed == 0 || seed == 6 || seed == 7 || seed == SEEDS - 1) {
                int behind = (int) ((7919L * next + 12345) % SEEDS);
                Check.due("walk(0, " + seed + ", 1)", hall.walk(0, seed, 1), next % 12 % 6);
                Check.due("walk(0, " + seed + ", 2)", hall.walk(0, seed, 2), behind % 12 % 6);
                found += atEnd ? 1 : 0;
            }
        }
        Check.due("seeds that lead to the ends", found, 2);
        Check.due("walk(0, 6, 1) by 59859", hall.walk(0, 6, 1), 3);
        Check.due("walk(0, 7, 1) by 67778 - 65521", hall.walk(0, 7, 1), 2257 % 12 % 6);
    }

    private static void remaindersOfSlots() {
        for (int slots = 1; slots <= 12; slots++) {
            for (int slot = 0; slot < slots; slot++) {
                ChanceHall hall = Halls.staying(2, slots);
                hall.lead(0, slot, 1);
                Check.due("walk(0, 0, 1) with slot " + slot + " of " + slots + " that goes on", hall.walk(0, 0, 1),
                    12345 % slots == slot ? 1 : 0);
            }
        }
    }

    /** From seed 0 the first slots drawn of two are 1 and 0. */
    private static void firstSlotFirst() {
        ChanceHall hall = Halls.staying(3, 2);
        hall.lead(0, 1, 1);
        hall.lead(1, 0, 2);
        Check.due("walk(0, 0, 1)", hall.walk(0, 0, 1), 1);
        Check.due("walk(0, 0, 2)", hall.walk(0, 0, 2), 2);
        ChanceHall back = Halls.staying(3, 2);
        back.lead(0, 0, 1);
        back.lead(1, 1, 2);
        Check.due("walk(0, 0, 2) with the slots the other way round", back.walk(0, 0, 2), 1);
    }

    /** From seed 0 the first slots drawn of two are 1, 0, 0: by 0 all fall to 0 in two steps, then 1 exchanges 0 and 1. */
    private static void firstSlotLast() {
        ChanceHall hall = Halls.staying(3, 2);
        hall.lead(1, 0, 0);
        hall.lead(2, 0, 1);
        hall.lead(0, 1, 1);
        hall.lead(1, 1, 0);
        Check.due("draw(0)", hall.draw(0), 6 * 3 + 1);
    }

    /** Seed 1564 needs 200 slots, seed 445 needs 201; another program found them. */
    private static void drawnAtMost() {
        ChanceHall hall = Halls.staying(6, 12);
        for (int state = 0; state < 6; state++) {
            hall.lead(state, 0, Math.max(state - 1, 0));
            hall.lead(state, 1, Math.min(state + 1, 5));
        }
        Check.due("draw(1564)", hall.draw(1564), 6 * 200 + 4);
        Check.due("draw(445)", hall.draw(445), -1);
        Check.due("draw(0) of what stays", Halls.staying(2, 12).draw(0), -1);
    }

    private static void noneIsDrawn() {
        for (int slots = 1; slots <= 12; slots++) {
            Check.due("draw(0) of one state", Halls.staying(1, slots).draw(0), 0);
            Check.due("draw(65520) of one state", Halls.staying(1, slots).draw(SEEDS - 1), 0);
        }
    }

    private static void paysAtFirst() {
        ChanceHall hall = Halls.staying(6, 1);
        for (int state = 0; state < 6; state++) {
            Check.due("best(" + state + ", 0) at first", hall.best(state, 0), 0);
            Check.due("pay(" + state + ", -100000)", hall.pay(state, -100000), 0);
            Check.due("pay(" + state + ", 100000)", hall.pay(state, 100000), -100000);
            Check.due("best(" + state + ", 0) of the most", hall.best(state, 0), 100000);
        }
    }

    private static void driftOfWhatStays() {
        ChanceHall hall = Halls.staying(2, 12);
        hall.pay(0, -100000);
        Check.due("drift(0) of what stays", hall.drift(0), 0);
        Halls.leadAll(hall, 0, 12, 1);
        Check.due("drift(0) of what goes on by all slots", hall.drift(0), 1200000);
    }

    private static void fairIfAllAre() {
        for (int unfair = 0; unfair < 6; unfair++) {
            ChanceHall hall = Halls.staying(6, 12);
            hall.pay(unfair, 1);
            Check.due("isFair() of what stays", hall.isFair(), true);
            hall.lead(unfair, 0, unfair == 0 ? 5 : 0);
            Check.due("isFair(), but for state " + unfair, hall.isFair(), false);
        }
    }

    private static void bestWithoutSteps() {
        ChanceHall hall = Halls.circle(2, 12);
        hall.pay(0, -100000);
        hall.pay(1, 100000);
        Check.due("best(0, 0)", hall.best(0, 0), -100000);
        Check.due("best(1, 0)", hall.best(1, 0), 100000);
    }

    private static void bestByOneMoreStep() {
        ChanceHall hall = Halls.staying(2, 2);
        hall.lead(0, 1, 1);
        hall.pay(0, 3);
        hall.pay(1, 4);
        Check.due("best(0, 1), 6 by stopping, 7 by going on", hall.best(0, 1), 7);
        Check.due("best(0, 2), 12 by stopping, 7 and 8 by going on", hall.best(0, 2), 15);
        hall.pay(1, 2);
        Check.due("best(0, 1), 6 by stopping, 5 by going on", hall.best(0, 1), 6);
        Check.due("best(0, 12), all words times the pay", hall.best(0, 12), 3 * 4096);
    }

    private static void stopsIfNotLess() {
        ChanceHall hall = Halls.staying(2, 2);
        hall.lead(0, 1, 1);
        for (int pay = -1; pay <= 1; pay++) {
            hall.pay(1, pay);
            Check.due("stops(0, 1) with a pay of 0 and of " + pay, hall.stops(0, 1), pay <= 0);
            Check.due("stops(0, 12) with a pay of 0 and of " + pay, hall.stops(0, 12), pay <= 0);
        }
    }

    private static void noReverseWithoutRest() {
        for (int states = 2; states <= 6; states++) {
            Check.due("reverses() of " + states + " that stay", Halls.staying(states, 12).reverses(), false);
        }
        Check.due("reverses() of one state", Halls.staying(1, 12).reverses(), true);
        ChanceHall two = Halls.staying(4, 1);
        two.lead(0, 0, 1);
        two.lead(1, 0, 0);
        two.lead(2, 0, 3);
        two.lead(3, 0, 2);
        Check.due("reverses() of two classes that do, each by itself", two.reverses(), false);
    }

    private static void reversesByEachTwo() {
        ChanceHall hall = Halls.staying(3, 3);
        hall.lead(0, 0, 2);
        Check.due("reverses() without rest", hall.reverses(), false);
        hall.lead(1, 0, 2);
        Check.due("reverses() of what ends in the last", hall.reverses(), true);
        hall.lead(2, 0, 1);
        Check.due("reverses() with the last two there and back", hall.reverses(), true);
        hall.lead(2, 1, 0);
        Check.due("reverses() with each to the last and back", hall.reverses(), true);
        hall.lead(1, 1, 0);
        Check.due("reverses() with one more way", hall.reverses(), false);
        ChanceHall round = Halls.staying(6, 1);
        for (int state = 0; state < 6; state++) {
            round.lead(state, 0, state == 5 ? 3 : state + 1);
        }
        Check.due("reverses(), but the last three go round", round.reverses(), false);
    }

    private static void coloursAtFirst() {
        ChanceHall hall = Halls.staying(6, 1);
        for (int state = 0; state < 6; state++) {
            Check.due("colour(" + state + ", 5)", hall.colour(state, 5), 0);
            Check.due("colour(" + state + ", 0)", hall.colour(state, 0), 5);
        }
    }

    private static void lumpedByEachTwo() {
        for (int one = 0; one < 6; one++) {
            for (int other = one + 1; other < 6; other++) {
                lumpedByTwo(one, other, 1);
                lumpedByTwo(one, other, 12);
            }
        }
    }

    /** These two are of one colour, and all others of colours of their own. */
    private static void lumpedByTwo(int one, int other, int slots) {
        ChanceHall hall = Halls.staying(6, slots);
        for (int state = 0; state < 6; state++) {
            hall.colour(state, state == other ? one : state);
        }
        String two = " of " + one + " and " + other + " by " + slots + " slots";
        Check.due("isLumped() of what stays" + two, hall.isLumped(), true);
        int elsewhere = one == 0 ? other == 5 ? 4 : 5 : 0;
        hall.lead(other, slots - 1, elsewhere);
        Check.due("isLumped() with one slot elsewhere" + two, hall.isLumped(), false);
        hall.lead(one, 0, elsewhere);
        Check.due("isLumped() with a slot of both elsewhere" + two, hall.isLumped(), true);
    }
}
