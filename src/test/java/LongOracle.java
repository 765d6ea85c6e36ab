import java.math.BigInteger;

/**
 * Counts of words too long to be gone through, by powers of tables in BigInteger: they don't wrap around, and what
 * a long can't hold is a fault at once. It throws nothing else; its arguments are in range.
 */
final class LongOracle {
    private final Oracle chain;

    LongOracle(Oracle chain) {
        this.chain = chain;
    }

    long law(int from, int steps, int to) {
        return power(weights(-1), steps)[from][to].longValueExact();
    }

    /** In a chain that goes on nowhere from there, a word that comes by a state ends in it. */
    long hits(int from, int steps, int to) {
        return power(weights(to), steps)[from][to].longValueExact();
    }

    long distance(int one, int other, int steps) {
        BigInteger[][] laws = power(weights(-1), steps);
        BigInteger sum = BigInteger.ZERO;
        for (int to = 0; to < chain.states; to++) {
            sum = sum.add(laws[one][to].subtract(laws[other][to]).max(BigInteger.ZERO));
        }
        return sum.longValueExact();
    }

    int mixing(int thousandths) {
        for (int steps = 0; steps <= 12; steps++) {
            if (isMixed(thousandths, steps)) {
                return steps;
            }
        }
        return -1;
    }

    private boolean isMixed(int thousandths, int steps) {
        BigInteger most = BigInteger.valueOf(chain.words(steps)).multiply(BigInteger.valueOf(thousandths));
        for (int one = 0; one < chain.states; one++) {
            for (int other = 0; other < chain.states; other++) {
                BigInteger distance = BigInteger.valueOf(distance(one, other, steps));
                if (distance.multiply(BigInteger.valueOf(1000)).compareTo(most) > 0) {
                    return false;
                }
            }
        }
        return true;
    }

    /** Walkers who have met stay together, for they go by the same word: those who are apart at last have never met. */
    long apart(int one, int other, int steps) {
        BigInteger sum = BigInteger.ZERO;
        BigInteger[] row = power(pairs(), steps)[one * chain.states + other];
        for (int pair = 0; pair < row.length; pair++) {
            sum = isApart(pair) ? sum.add(row[pair]) : sum;
        }
        return sum.longValueExact();
    }

    long together(int steps, int to) {
        return power(crowds(), steps)[(1 << chain.states) - 1][1 << to].longValueExact();
    }

    long best(int state, int steps) {
        return bests(steps)[state].longValueExact();
    }

    boolean stops(int state, int steps) {
        return steps == 0 || stopping(state, steps).compareTo(goingOn(state, bests(steps - 1))) >= 0;
    }

    private BigInteger[] bests(int steps) {
        BigInteger[] bests = new BigInteger[chain.states];
        BigInteger[] later = steps == 0 ? null : bests(steps - 1);
        for (int state = 0; state < chain.states; state++) {
            bests[state] = stopping(state, steps);
            bests[state] = later == null ? bests[state] : bests[state].max(goingOn(state, later));
        }
        return bests;
    }

    private BigInteger stopping(int state, int steps) {
        return BigInteger.valueOf(chain.slots).pow(steps).multiply(BigInteger.valueOf(chain.pays[state]));
    }

    private BigInteger goingOn(int state, BigInteger[] later) {
        BigInteger sum = BigInteger.ZERO;
        for (int next : chain.goesTo[state]) {
            sum = sum.add(later[next]);
        }
        return sum;
    }

    /** The weights, but that all slots of one state stay there. */
    private BigInteger[][] weights(int staying) {
        BigInteger[][] table = zeros(chain.states);
        for (int state = 0; state < chain.states; state++) {
            for (int next : chain.goesTo[state]) {
                addOne(table, state, state == staying ? state : next);
            }
        }
        return table;
    }

    private BigInteger[][] pairs() {
        BigInteger[][] table = zeros(chain.states * chain.states);
        for (int pair = 0; pair < table.length; pair++) {
            for (int slot = 0; slot < chain.slots; slot++) {
                int one = chain.goesTo[pair / chain.states][slot];
                int other = chain.goesTo[pair % chain.states][slot];
                addOne(table, pair, one * chain.states + other);
            }
        }
        return table;
    }

    private boolean isApart(int pair) {
        return pair / chain.states != pair % chain.states;
    }

    private BigInteger[][] crowds() {
        BigInteger[][] table = zeros(1 << chain.states);
        for (int crowd = 1; crowd < table.length; crowd++) {
            for (int slot = 0; slot < chain.slots; slot++) {
                int next = 0;
                for (int state = 0; state < chain.states; state++) {
                    next |= (crowd >> state & 1) << chain.goesTo[state][slot];
                }
                addOne(table, crowd, next);
            }
        }
        return table;
    }

    private static void addOne(BigInteger[][] table, int row, int column) {
        table[row][column] = table[row][column].add(BigInteger.ONE);
    }

    private static BigInteger[][] zeros(int size) {
        BigInteger[][] table = new BigInteger[size][size];
        for (BigInteger[] row : table) {
            java.util.Arrays.fill(row, BigInteger.ZERO);
        }
        return table;
    }

    /** By halves, so that the program's way, step by step, is not gone again. */
    private static BigInteger[][] power(BigInteger[][] table, int exponent) {
        if (exponent == 0) {
            BigInteger[][] one = zeros(table.length);
            for (int i = 0; i < table.length; i++) {
                one[i][i] = BigInteger.ONE;
            }
            return one;
        }
        BigInteger[][] half = power(table, exponent / 2);
        BigInteger[][] whole = product(half, half);
        return exponent % 2 == 0 ? whole : product(whole, table);
    }

    private static BigInteger[][] product(BigInteger[][] first, BigInteger[][] second) {
        BigInteger[][] product = zeros(first.length);
        for (int i = 0; i < first.length; i++) {
            for (int k = 0; k < first.length; k++) {
                for (int j = 0; first[i][k].signum() != 0 && j < first.length; j++) {
                    if (second[k][j].signum() != 0) {
                        product[i][j] = product[i][j].add(first[i][k].multiply(second[k][j]));
                    }
                }
            }
        }
        return product;
    }
}
