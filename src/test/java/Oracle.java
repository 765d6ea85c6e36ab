import java.math.BigInteger;
import java.util.ArrayList;
import java.util.HashSet;
import java.util.List;
import java.util.Set;
import java.util.TreeSet;

/**
 * The document's words done in the most literal way, by other ways than the program's: all words and all trees
 * are gone through, one by one. It throws nothing; its arguments are in range.
 */
final class Oracle {
    final int states;
    final int slots;
    final int[][] goesTo;
    final int[] pays;
    final int[] colours;

    Oracle(int states, int slots) {
        this.states = states;
        this.slots = slots;
        goesTo = new int[states][slots];
        pays = new int[states];
        colours = new int[states];
        for (int state = 0; state < states; state++) {
            for (int slot = 0; slot < slots; slot++) {
                goesTo[state][slot] = state;
            }
        }
    }

    Oracle copy() {
        Oracle copy = new Oracle(states, slots);
        for (int state = 0; state < states; state++) {
            copy.goesTo[state] = goesTo[state].clone();
            copy.pays[state] = pays[state];
            copy.colours[state] = colours[state];
        }
        return copy;
    }

    int weight(int state, int to) {
        int count = 0;
        for (int next : goesTo[state]) {
            count += next == to ? 1 : 0;
        }
        return count;
    }

    long words(int steps) {
        return BigInteger.valueOf(slots).pow(steps).longValueExact();
    }

    /** All words of that many steps, each a row of slots. */
    List<int[]> allWords(int steps) {
        List<int[]> words = new ArrayList<>();
        for (long number = 0; number < words(steps); number++) {
            int[] word = new int[steps];
            long left = number;
            for (int step = 0; step < steps; step++) {
                word[step] = (int) (left % slots);
                left /= slots;
            }
            words.add(word);
        }
        return words;
    }

    long law(int from, int steps, int to) {
        long count = 0;
        for (int[] word : allWords(steps)) {
            int at = from;
            for (int slot : word) {
                at = goesTo[at][slot];
            }
            count += at == to ? 1 : 0;
        }
        return count;
    }

    long distance(int one, int other, int steps) {
        long sum = 0;
        for (int to = 0; to < states; to++) {
            long above = law(one, steps, to) - law(other, steps, to);
            sum += above > 0 ? above : 0;
        }
        return sum;
    }

    boolean isMixed(int thousandths, int steps) {
        for (int one = 0; one < states; one++) {
            for (int other = 0; other < states; other++) {
                if (1000 * distance(one, other, steps) > thousandths * words(steps)) {
                    return false;
                }
            }
        }
        return true;
    }

    long apart(int one, int other, int steps) {
        long count = 0;
        for (int[] word : allWords(steps)) {
            int first = one;
            int second = other;
            boolean met = first == second;
            for (int slot : word) {
                first = goesTo[first][slot];
                second = goesTo[second][slot];
                met |= first == second;
            }
            count += met ? 0 : 1;
        }
        return count;
    }

    long together(int steps, int to) {
        long count = 0;
        for (int[] word : allWords(steps)) {
            Set<Integer> crowd = crowdBehind(word);
            count += crowd.size() == 1 && crowd.contains(to) ? 1 : 0;
        }
        return count;
    }

    private Set<Integer> crowdBehind(int[] word) {
        Set<Integer> crowd = new HashSet<>();
        for (int state = 0; state < states; state++) {
            int at = state;
            for (int slot : word) {
                at = goesTo[at][slot];
            }
            crowd.add(at);
        }
        return crowd;
    }

    long hits(int from, int steps, int to) {
        long count = 0;
        for (int[] word : allWords(steps)) {
            int at = from;
            boolean hit = at == to;
            for (int slot : word) {
                at = goesTo[at][slot];
                hit |= at == to;
            }
            count += hit ? 1 : 0;
        }
        return count;
    }

    int reach(int state) {
        int set = 0;
        for (int to = 0; to < states; to++) {
            set |= leads(state, to, new boolean[states]) ? 1 << to : 0;
        }
        return set;
    }

    private boolean leads(int from, int to, boolean[] seen) {
        if (from == to) {
            return true;
        }
        seen[from] = true;
        for (int next : goesTo[from]) {
            if (!seen[next] && leads(next, to, seen)) {
                return true;
            }
        }
        return false;
    }

    int closed() {
        Set<Integer> found = new TreeSet<>();
        for (int state = 0; state < states; state++) {
            int set = reach(state);
            boolean isClosed = true;
            for (int other = 0; other < states; other++) {
                isClosed &= (set >> other & 1) == 0 || (reach(other) >> state & 1) == 1;
            }
            if (isClosed) {
                found.add(set);
            }
        }
        return found.size();
    }

    int period(int state) {
        Set<Integer> at = Set.of(state);
        BigInteger divisor = BigInteger.ZERO;
        for (int step = 1; step <= 80; step++) {
            Set<Integer> next = new HashSet<>();
            for (int from : at) {
                for (int to : goesTo[from]) {
                    next.add(to);
                }
            }
            at = next;
            if (at.contains(state)) {
                divisor = divisor.gcd(BigInteger.valueOf(step));
            }
        }
        return divisor.intValueExact();
    }

    long rest(int root) {
        int trees = 1;
        for (int state = 0; state < states; state++) {
            trees *= states;
        }
        long sum = 0;
        for (int number = 0; number < trees; number++) {
            int[] tree = new int[states];
            int left = number;
            for (int state = 0; state < states; state++) {
                tree[state] = left % states;
                left /= states;
            }
            sum += tree[root] == root && isTree(tree, root) ? treeWeight(tree, root) : 0;
        }
        return sum;
    }

    private boolean isTree(int[] tree, int root) {
        for (int state = 0; state < states; state++) {
            int at = state;
            for (int step = 0; step < states; step++) {
                at = tree[at];
            }
            if (at != root) {
                return false;
            }
        }
        return true;
    }

    private long treeWeight(int[] tree, int root) {
        long product = 1;
        for (int state = 0; state < states; state++) {
            product *= state == root ? 1 : weight(state, tree[state]);
        }
        return product;
    }

    long[] rests() {
        long[] rests = new long[states];
        for (int state = 0; state < states; state++) {
            rests[state] = rest(state);
        }
        return rests;
    }

    int[] ranks(long[] rests) {
        List<Integer> order = new ArrayList<>();
        for (int state = 0; state < states; state++) {
            order.add(state);
        }
        order.sort((one, other) -> Long.compare(rests[other], rests[one]));
        return order.stream().mapToInt(Integer::intValue).toArray();
    }

    private int[] drawn(int seed, int count) {
        int[] drawn = new int[count];
        long at = seed;
        for (int i = 0; i < count; i++) {
            at = (7919 * at + 12345) % 65521;
            drawn[i] = (int) (at % slots);
        }
        return drawn;
    }

    int walk(int from, int seed, int steps) {
        int at = from;
        for (int slot : drawn(seed, steps)) {
            at = goesTo[at][slot];
        }
        return at;
    }

    int draw(int seed) {
        if (states == 1) {
            return 0;
        }
        int[] drawn = drawn(seed, 200);
        for (int count = 1; count <= 200; count++) {
            int[] word = new int[count];
            for (int i = 0; i < count; i++) {
                word[i] = drawn[count - 1 - i];
            }
            Set<Integer> crowd = crowdBehind(word);
            if (crowd.size() == 1) {
                return 6 * count + crowd.iterator().next();
            }
        }
        return -1;
    }

    long drift(int state) {
        long sum = 0;
        for (int next : goesTo[state]) {
            sum += pays[next] - pays[state];
        }
        return sum;
    }

    long best(int state, int steps) {
        return steps == 0 ? pays[state] : Math.max(pays[state] * words(steps), goingOn(state, steps));
    }

    private long goingOn(int state, int steps) {
        long sum = 0;
        for (int next : goesTo[state]) {
            sum += best(next, steps - 1);
        }
        return sum;
    }

    boolean stops(int state, int steps) {
        return steps == 0 || pays[state] * words(steps) >= goingOn(state, steps);
    }

    boolean reverses(long[] rests) {
        long whole = 0;
        boolean same = true;
        for (int one = 0; one < states; one++) {
            whole += rests[one];
            for (int other = 0; other < states; other++) {
                same &= rests[one] * weight(one, other) == rests[other] * weight(other, one);
            }
        }
        return whole != 0 && same;
    }

    boolean isLumped() {
        for (int one = 0; one < states; one++) {
            for (int other = 0; other < states; other++) {
                for (int colour = 0; colour < 6; colour++) {
                    if (colours[one] == colours[other] && weightTo(one, colour) != weightTo(other, colour)) {
                        return false;
                    }
                }
            }
        }
        return true;
    }

    private int weightTo(int state, int colour) {
        int count = 0;
        for (int next : goesTo[state]) {
            count += colours[next] == colour ? 1 : 0;
        }
        return count;
    }
}
