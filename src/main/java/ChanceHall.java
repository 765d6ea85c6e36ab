import java.util.Arrays;

/**
 * A hall of chains of chance, in whole numbers. The face looks at the arguments and throws;
 * the classes inside it hold the chain and count, and are called with arguments in range alone.
 */
public final class ChanceHall {
    public static final int NONE = -1;

    private static final int MOST_STATES = 6;
    private static final int MOST_SLOTS = 12;
    private static final int MOST_STEPS = 12;
    private static final int MOST_STEPS_ANEW = 4;
    private static final int MOST_STEPS_WALKED = 1000;
    private static final int MOST_DRAWN = 200;
    private static final int MOST_THOUSANDTHS = 1000;
    private static final int MOST_PAY = 100000;
    private static final int COLOURS = 6;
    private static final int SEEDS = 65521;
    private static final int SEED_FACTOR = 7919;
    private static final int SEED_SUMMAND = 12345;

    private final Chain chain;
    private final Laws laws;
    private final Crowds crowds;
    private final Classes classes;
    private final Trees trees;
    private final Draws draws;
    private final Games games;
    private final Lumps lumps;

    public ChanceHall() {
        chain = new Chain();
        laws = new Laws(chain);
        crowds = new Crowds(chain);
        classes = new Classes(chain);
        trees = new Trees(chain);
        draws = new Draws(chain);
        games = new Games(chain);
        lumps = new Lumps(chain);
        chain.setOut(1, 1);
    }

    public void begin(int states, int slots) throws IllegalArgumentException {
        needRange(states, 1, MOST_STATES);
        needRange(slots, 1, MOST_SLOTS);
        chain.setOut(states, slots);
        games.forget();
        lumps.forget();
    }

    public int lead(int state, int slot, int to) throws IndexOutOfBoundsException {
        needState(state);
        needSlot(slot);
        needState(to);
        return chain.turn(state, slot, to);
    }

    public void swap(int state, int slot, int other) throws IndexOutOfBoundsException {
        needState(state);
        needSlot(slot);
        needSlot(other);
        chain.exchange(state, slot, other);
    }

    public int pay(int state, int pay) throws IndexOutOfBoundsException, IllegalArgumentException {
        needState(state);
        needRange(pay, -MOST_PAY, MOST_PAY);
        return games.setPay(state, pay);
    }

    public int colour(int state, int colour) throws IndexOutOfBoundsException, IllegalArgumentException {
        needState(state);
        needRange(colour, 0, COLOURS - 1);
        return lumps.setColour(state, colour);
    }

    // ---- laws, distances

    public int weight(int state, int to) throws IndexOutOfBoundsException {
        needState(state);
        needState(to);
        return chain.weights[state][to];
    }

    public long words(int steps) throws IllegalArgumentException {
        needRange(steps, 0, MOST_STEPS);
        return chain.countWords(steps);
    }

    public long law(int from, int steps, int to) throws IndexOutOfBoundsException, IllegalArgumentException {
        needState(from);
        needState(to);
        needRange(steps, 0, MOST_STEPS);
        return laws.countLaw(from, steps, to);
    }

    public long lawAnew(int from, int steps, int to) throws IndexOutOfBoundsException, IllegalArgumentException {
        needState(from);
        needState(to);
        needRange(steps, 0, MOST_STEPS_ANEW);
        return goThroughWords(chain, from, steps, to);
    }

    public long distance(int one, int other, int steps) throws IndexOutOfBoundsException, IllegalArgumentException {
        needState(one);
        needState(other);
        needRange(steps, 0, MOST_STEPS);
        laws.countLaws(steps);
        return laws.distanceBehind(one, other, steps);
    }

    public int mixing(int thousandths) throws IllegalArgumentException {
        needRange(thousandths, 0, MOST_THOUSANDTHS);
        laws.countLaws(MOST_STEPS);
        for (int steps = 0; steps <= MOST_STEPS; steps++) {
            if (laws.isMixed(thousandths, steps)) {
                return steps;
            }
        }
        return NONE;
    }

    public long apart(int one, int other, int steps) throws IndexOutOfBoundsException, IllegalArgumentException {
        needState(one);
        needState(other);
        needRange(steps, 0, MOST_STEPS);
        return crowds.countApart(one, other, steps);
    }

    public long together(int steps, int to) throws IndexOutOfBoundsException, IllegalArgumentException {
        needState(to);
        needRange(steps, 0, MOST_STEPS);
        return crowds.countTogether(steps, to);
    }

    public long hits(int from, int steps, int to) throws IndexOutOfBoundsException, IllegalArgumentException {
        needState(from);
        needState(to);
        needRange(steps, 0, MOST_STEPS);
        return laws.countHits(from, steps, to);
    }

    // ---- classes, rest

    public int reach(int state) throws IndexOutOfBoundsException {
        needState(state);
        return classes.reachedFrom(state);
    }

    public int closed() {
        return classes.countClosed();
    }

    public int period(int state) throws IndexOutOfBoundsException {
        needState(state);
        return classes.periodOf(state);
    }

    public long rest(int state) throws IndexOutOfBoundsException {
        if (state == NONE) {
            return trees.wholeRest();
        }
        needState(state);
        return trees.restOf(state);
    }

    public float share(int state) throws IndexOutOfBoundsException, IllegalStateException {
        needState(state);
        long whole = trees.wholeRest();
        if (whole == 0) {
            throw new IllegalStateException("the whole rest is 0");
        }
        return (float) trees.restOf(state) / (float) whole;
    }

    public int ranked(int rank) throws IndexOutOfBoundsException {
        if (rank < 0) {
            throw new IndexOutOfBoundsException("a rank is not below 0");
        }
        trees.countRests();
        for (int state = 0; state < chain.states; state++) {
            if (trees.countAhead(state) == rank) {
                return state;
            }
        }
        return NONE;
    }

    // ---- draws

    public int walk(int from, int seed, int steps) throws IndexOutOfBoundsException, IllegalArgumentException {
        needState(from);
        needRange(seed, 0, SEEDS - 1);
        needRange(steps, 0, MOST_STEPS_WALKED);
        return draws.walkOn(from, seed, steps);
    }

    public int draw(int seed) throws IllegalArgumentException {
        needRange(seed, 0, SEEDS - 1);
        return draws.drawFromPast(seed);
    }

    // ---- games, stopping, lumps

    public long drift(int state) throws IndexOutOfBoundsException {
        needState(state);
        return games.driftOf(state);
    }

    public boolean isFair() {
        for (int state = 0; state < chain.states; state++) {
            if (games.driftOf(state) != 0) {
                return false;
            }
        }
        return true;
    }

    public long best(int state, int steps) throws IndexOutOfBoundsException, IllegalArgumentException {
        needState(state);
        needRange(steps, 0, MOST_STEPS);
        return games.bestOf(state, steps);
    }

    public boolean stops(int state, int steps) throws IndexOutOfBoundsException, IllegalArgumentException {
        needState(state);
        needRange(steps, 0, MOST_STEPS);
        return games.isBestToStop(state, steps);
    }

    public boolean reverses() {
        return trees.isTheSameBackwards();
    }

    public boolean isLumped() {
        return lumps.isChainLumped();
    }

    private void needState(int state) {
        if (state < 0 || state >= chain.states) {
            throw new IndexOutOfBoundsException("there is no such state");
        }
    }

    private void needSlot(int slot) {
        if (slot < 0 || slot >= chain.slots) {
            throw new IndexOutOfBoundsException("there is no such slot");
        }
    }

    private static void needRange(int value, int least, int most) {
        if (value < least || value > most) {
            throw new IllegalArgumentException("an argument is out of range");
        }
    }

    private static int pairOf(int one, int other) {
        return MOST_STATES * one + other;
    }

    /** Goes slot by slot, not by weights, so that it checks the law by another way; the steps left bound its depth. */
    private static long goThroughWords(Chain chain, int from, int stepsLeft, int to) {
        if (stepsLeft <= 0) {
            return from == to ? 1 : 0;
        }
        long count = 0;
        for (int slot = 0; slot < chain.slots; slot++) {
            count += goThroughWords(chain, chain.goesTo[from][slot], stepsLeft - 1, to);
        }
        return count;
    }

    /** The weights are kept beside the slots, since most counts ask for them alone. */
    private static final class Chain {
        int states;
        int slots;
        final int[][] goesTo;
        final int[][] weights;

        Chain() {
            goesTo = new int[MOST_STATES][MOST_SLOTS];
            weights = new int[MOST_STATES][MOST_STATES];
        }

        void setOut(int newStates, int newSlots) {
            states = newStates;
            slots = newSlots;
            for (int state = 0; state < MOST_STATES; state++) {
                Arrays.fill(goesTo[state], state);
                Arrays.fill(weights[state], 0);
                weights[state][state] = newSlots;
            }
        }

        int turn(int state, int slot, int to) {
            int was = goesTo[state][slot];
            goesTo[state][slot] = to;
            weights[state][was]--;
            weights[state][to]++;
            return was;
        }

        void exchange(int state, int slot, int other) {
            int was = goesTo[state][slot];
            goesTo[state][slot] = goesTo[state][other];
            goesTo[state][other] = was;
        }

        long countWords(int steps) {
            long count = 1;
            for (int step = 0; step < steps; step++) {
                count *= slots;
            }
            return count;
        }

        /** By weights: the slots that lead to one state add the same. */
        long sumOverSlots(int state, long[] values) {
            long sum = 0;
            for (int to = 0; to < states; to++) {
                sum += weights[state][to] * values[to];
            }
            return sum;
        }
    }

    /** Row k of each table stands for words of k steps. */
    private static final class Laws {
        private final Chain chain;
        private final long[][] rows;
        private final long[][] hitRows;

        Laws(Chain chain) {
            this.chain = chain;
            rows = new long[MOST_STEPS + 1][MOST_STATES * MOST_STATES];
            hitRows = new long[MOST_STEPS + 1][MOST_STATES];
        }

        void countLaws(int steps) {
            for (int from = 0; from < chain.states; from++) {
                for (int to = 0; to < chain.states; to++) {
                    rows[0][pairOf(from, to)] = from == to ? 1 : 0;
                }
            }
            for (int step = 1; step <= steps; step++) {
                for (int from = 0; from < chain.states; from++) {
                    goOneStep(from, rows[step - 1], rows[step]);
                }
            }
        }

        private void goOneStep(int from, long[] now, long[] next) {
            for (int to = 0; to < chain.states; to++) {
                long count = 0;
                for (int by = 0; by < chain.states; by++) {
                    count += now[pairOf(from, by)] * chain.weights[by][to];
                }
                next[pairOf(from, to)] = count;
            }
        }

        long countLaw(int from, int steps, int to) {
            countLaws(steps);
            return rows[steps][pairOf(from, to)];
        }

        /** Needs the laws counted, to that many steps at least. */
        long distanceBehind(int one, int other, int steps) {
            long sum = 0;
            for (int to = 0; to < chain.states; to++) {
                long above = rows[steps][pairOf(one, to)] - rows[steps][pairOf(other, to)];
                sum += Math.max(above, 0L);
            }
            return sum;
        }

        /** Needs the laws counted, to that many steps at least. */
        boolean isMixed(int thousandths, int steps) {
            long allowed = thousandths * chain.countWords(steps);
            for (int one = 0; one < chain.states; one++) {
                for (int other = one + 1; other < chain.states; other++) {
                    if (MOST_THOUSANDTHS * distanceBehind(one, other, steps) > allowed) {
                        return false;
                    }
                }
            }
            return true;
        }

        long countHits(int from, int steps, int to) {
            for (int step = 0; step <= steps; step++) {
                for (int state = 0; state < chain.states; state++) {
                    hitRows[step][state] = hitsIn(state, step, to);
                }
            }
            return hitRows[steps][from];
        }

        private long hitsIn(int state, int steps, int to) {
            if (state == to) {
                return chain.countWords(steps);
            }
            return steps == 0 ? 0 : chain.sumOverSlots(state, hitRows[steps - 1]);
        }
    }

    /** Here it matters which slots lead where, not the weights alone: all go by the same word. */
    private static final class Crowds {
        private final Chain chain;
        private final long[][] apartRows;
        private final long[][] setRows;

        Crowds(Chain chain) {
            this.chain = chain;
            apartRows = new long[MOST_STEPS + 1][MOST_STATES * MOST_STATES];
            setRows = new long[MOST_STEPS + 1][1 << MOST_STATES];
        }

        long countApart(int one, int other, int steps) {
            for (int step = 0; step <= steps; step++) {
                for (int first = 0; first < chain.states; first++) {
                    for (int second = 0; second < chain.states; second++) {
                        apartRows[step][pairOf(first, second)] = apartFrom(first, second, step);
                    }
                }
            }
            return apartRows[steps][pairOf(one, other)];
        }

        private long apartFrom(int one, int other, int steps) {
            if (one == other) {
                return 0;
            }
            if (steps == 0) {
                return 1;
            }
            long count = 0;
            for (int slot = 0; slot < chain.slots; slot++) {
                count += apartRows[steps - 1][pairOf(chain.goesTo[one][slot], chain.goesTo[other][slot])];
            }
            return count;
        }

        /** A crowd is known by the set of states that it is in: who stands where in it does not matter. */
        long countTogether(int steps, int to) {
            int all = (1 << chain.states) - 1;
            Arrays.fill(setRows[0], 0L);
            setRows[0][all] = 1;
            for (int step = 1; step <= steps; step++) {
                Arrays.fill(setRows[step], 0L);
                for (int set = 1; set <= all; set++) {
                    moveCrowds(set, setRows[step - 1][set], setRows[step]);
                }
            }
            return setRows[steps][1 << to];
        }

        private void moveCrowds(int set, long count, long[] next) {
            if (count == 0) {
                return;
            }
            for (int slot = 0; slot < chain.slots; slot++) {
                next[setBehind(set, slot)] += count;
            }
        }

        private int setBehind(int set, int slot) {
            int behind = 0;
            for (int state = 0; state < chain.states; state++) {
                if ((set & 1 << state) != 0) {
                    behind |= 1 << chain.goesTo[state][slot];
                }
            }
            return behind;
        }
    }

    private static final class Classes {
        /**
         * Each step of a class lies on a way out and back that is shorter than this, and the shortest way out and back
         * to where that step ends is so too; what divides the lengths of these divides those of all ways back.
         */
        private static final int STEPS_FOR_PERIODS = 2 * MOST_STATES;

        private final Chain chain;

        Classes(Chain chain) {
            this.chain = chain;
        }

        int reachedFrom(int state) {
            int set = 1 << state;
            for (int step = 1; step < chain.states; step++) {
                set |= setOneStepOn(set);
            }
            return set;
        }

        private int setOneStepOn(int set) {
            int on = 0;
            for (int state = 0; state < chain.states; state++) {
                for (int to = 0; to < chain.states; to++) {
                    if ((set & 1 << state) != 0 && chain.weights[state][to] > 0) {
                        on |= 1 << to;
                    }
                }
            }
            return on;
        }

        int countClosed() {
            int count = 0;
            for (int state = 0; state < chain.states; state++) {
                if (isLowestOfClosed(state)) {
                    count++;
                }
            }
            return count;
        }

        /** Each closed class is counted by its lowest state, so that it is counted once. */
        private boolean isLowestOfClosed(int state) {
            int set = reachedFrom(state);
            for (int other = 0; other < chain.states; other++) {
                if ((set & 1 << other) == 0) {
                    continue;
                }
                if (other < state || (reachedFrom(other) & 1 << state) == 0) {
                    return false;
                }
            }
            return true;
        }

        int periodOf(int state) {
            int set = 1 << state;
            int returns = 0;
            for (int step = 1; step <= STEPS_FOR_PERIODS; step++) {
                set = setOneStepOn(set);
                if ((set & 1 << state) != 0) {
                    returns |= 1 << step;
                }
            }
            return returns == 0 ? 0 : greatestDivisor(returns);
        }

        private static int greatestDivisor(int numbers) {
            for (int divisor = STEPS_FOR_PERIODS; divisor > 1; divisor--) {
                if (dividesAll(divisor, numbers)) {
                    return divisor;
                }
            }
            return 1;
        }

        /** No divisor below 1 is tried; a divisor is looked at all the same. */
        private static boolean dividesAll(int divisor, int numbers) {
            if (divisor < 1) {
                return false;
            }
            for (int number = 1; number <= STEPS_FOR_PERIODS; number++) {
                if ((numbers & 1 << number) != 0 && number % divisor != 0) {
                    return false;
                }
            }
            return true;
        }
    }

    /**
     * The weights of all trees of a state sum up to a determinant (the matrix tree theorem), which is far
     * cheaper than going through the trees: its row for a state has, for itself, the weights to all other states,
     * and for each other state, the weight to it with a minus; the tree's own state has neither row nor column.
     */
    private static final class Trees {
        private final Chain chain;
        private final long[] rests;
        private final int[] others;
        private final long[] minors;

        Trees(Chain chain) {
            this.chain = chain;
            rests = new long[MOST_STATES];
            others = new int[MOST_STATES];
            minors = new long[1 << (MOST_STATES - 1)];
        }

        void countRests() {
            for (int state = 0; state < chain.states; state++) {
                rests[state] = restOf(state);
            }
        }

        long wholeRest() {
            countRests();
            long sum = 0;
            for (int state = 0; state < chain.states; state++) {
                sum += rests[state];
            }
            return sum;
        }

        /** A minor is of the first rows, as many as it has columns: each is found by smaller ones, without a division. */
        long restOf(int root) {
            listOthers(root);
            int columns = chain.states - 1;
            minors[0] = 1;
            for (int set = 1; set < 1 << columns; set++) {
                minors[set] = minorOf(set, columns);
            }
            return minors[(1 << columns) - 1];
        }

        private void listOthers(int root) {
            for (int state = 0; state < chain.states; state++) {
                if (state != root) {
                    others[state < root ? state : state - 1] = state;
                }
            }
        }

        /** Goes along the last row, from the last column of the set back, for there the signs begin with a plus. */
        private long minorOf(int set, int columns) {
            int row = others[Integer.bitCount(set) - 1];
            long sum = 0;
            int sign = 1;
            for (int column = columns - 1; column >= 0; column--) {
                if ((set & 1 << column) != 0) {
                    sum += sign * entry(row, others[column]) * minors[set & ~(1 << column)];
                    sign = -sign;
                }
            }
            return sum;
        }

        private long entry(int state, int to) {
            return state == to ? chain.slots - chain.weights[state][state] : -chain.weights[state][to];
        }

        /** Needs the rests counted. */
        int countAhead(int state) {
            int count = 0;
            for (int other = 0; other < chain.states; other++) {
                if (rests[other] > rests[state] || rests[other] == rests[state] && other < state) {
                    count++;
                }
            }
            return count;
        }

        boolean isTheSameBackwards() {
            if (wholeRest() == 0) {
                return false;
            }
            for (int one = 0; one < chain.states; one++) {
                for (int other = one + 1; other < chain.states; other++) {
                    if (rests[one] * chain.weights[one][other] != rests[other] * chain.weights[other][one]) {
                        return false;
                    }
                }
            }
            return true;
        }
    }

    private static final class Draws {
        private final Chain chain;
        private final int[] ends;
        private final int[] endsBefore;

        Draws(Chain chain) {
            this.chain = chain;
            ends = new int[MOST_STATES];
            endsBefore = new int[MOST_STATES];
        }

        int walkOn(int from, int seed, int steps) {
            int at = from;
            int drawn = seed;
            for (int step = 0; step < steps; step++) {
                drawn = seedBehind(drawn);
                at = chain.goesTo[at][slotOf(drawn)];
            }
            return at;
        }

        /** Each new slot goes ahead of all drawn until then: it is enough to keep where those lead from each state. */
        int drawFromPast(int seed) {
            for (int state = 0; state < chain.states; state++) {
                ends[state] = state;
            }
            int drawn = seed;
            int count = 0;
            while (count < MOST_DRAWN && !isTogether()) {
                drawn = seedBehind(drawn);
                putAhead(slotOf(drawn));
                count++;
            }
            return isTogether() ? MOST_STATES * count + ends[0] : NONE;
        }

        private boolean isTogether() {
            for (int state = 1; state < chain.states; state++) {
                if (ends[state] != ends[0]) {
                    return false;
                }
            }
            return true;
        }

        private void putAhead(int slot) {
            System.arraycopy(ends, 0, endsBefore, 0, MOST_STATES);
            for (int state = 0; state < chain.states; state++) {
                ends[state] = endsBefore[chain.goesTo[state][slot]];
            }
        }

        /** No chain is without slots; a divisor is looked at all the same. */
        private int slotOf(int drawn) {
            return chain.slots < 1 ? 0 : drawn % chain.slots;
        }

        private static int seedBehind(int seed) {
            return (SEED_FACTOR * seed + SEED_SUMMAND) % SEEDS;
        }
    }

    private static final class Games {
        private final Chain chain;
        private final int[] pays;
        private final long[][] bests;

        Games(Chain chain) {
            this.chain = chain;
            pays = new int[MOST_STATES];
            bests = new long[MOST_STEPS + 1][MOST_STATES];
        }

        void forget() {
            Arrays.fill(pays, 0);
        }

        int setPay(int state, int pay) {
            int was = pays[state];
            pays[state] = pay;
            return was;
        }

        long driftOf(int state) {
            long sum = 0;
            for (int to = 0; to < chain.states; to++) {
                sum += (long) chain.weights[state][to] * pays[to];
            }
            return sum - (long) chain.slots * pays[state];
        }

        long bestOf(int state, int steps) {
            countBests(steps);
            return bests[steps][state];
        }

        boolean isBestToStop(int state, int steps) {
            countBests(steps);
            return byStopping(state, steps) >= byGoingOn(state, steps);
        }

        private void countBests(int steps) {
            for (int step = 0; step <= steps; step++) {
                for (int state = 0; state < chain.states; state++) {
                    bests[step][state] = Math.max(byStopping(state, step), byGoingOn(state, step));
                }
            }
        }

        private long byStopping(int state, int steps) {
            return pays[state] * chain.countWords(steps);
        }

        /** Needs the bests counted, to one step fewer; without steps one can't go on: no better than to stop. */
        private long byGoingOn(int state, int steps) {
            return steps < 1 ? byStopping(state, steps) : chain.sumOverSlots(state, bests[steps - 1]);
        }
    }

    private static final class Lumps {
        private final Chain chain;
        private final int[] colours;

        Lumps(Chain chain) {
            this.chain = chain;
            colours = new int[MOST_STATES];
        }

        void forget() {
            Arrays.fill(colours, 0);
        }

        int setColour(int state, int colour) {
            int was = colours[state];
            colours[state] = colour;
            return was;
        }

        boolean isChainLumped() {
            for (int one = 0; one < chain.states; one++) {
                for (int other = one + 1; other < chain.states; other++) {
                    if (colours[one] == colours[other] && !leadAlike(one, other)) {
                        return false;
                    }
                }
            }
            return true;
        }

        private boolean leadAlike(int one, int other) {
            for (int colour = 0; colour < COLOURS; colour++) {
                if (weightTo(one, colour) != weightTo(other, colour)) {
                    return false;
                }
            }
            return true;
        }

        private int weightTo(int state, int colour) {
            int sum = 0;
            for (int to = 0; to < chain.states; to++) {
                if (colours[to] == colour) {
                    sum += chain.weights[state][to];
                }
            }
            return sum;
        }
    }
}
