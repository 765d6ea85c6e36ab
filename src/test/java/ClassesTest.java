/** Promises 16 to 21: classes, periods, rests. */
public final class ClassesTest {
    public static void main(String[] args) {
        reach();
        closed();
        period();
        periodOfTwoCircles();
        rest();
        restOfTheMost();
        share();
        ranked();
        Check.end();
    }

    private static ChanceHall circle(int states, int slots) {
        ChanceHall hall = new ChanceHall();
        hall.begin(states, slots);
        for (int state = 0; state < states; state++) {
            for (int slot = 0; slot < slots; slot++) {
                hall.lead(state, slot, (state + 1) % states);
            }
        }
        return hall;
    }

    private static void reach() {
        ChanceHall hall = new ChanceHall();
        hall.begin(6, 2);
        Check.due("reach(5) of what stays", hall.reach(5), 32);
        for (int state = 5; state > 0; state--) {
            hall.lead(state, 1, state - 1);
        }
        Check.due("reach(5) step by step", hall.reach(5), 63);
        Check.due("reach(2) step by step", hall.reach(2), 7);
        Check.due("reach(0)", hall.reach(0), 1);
        hall.lead(3, 0, 2);
        Check.due("reach(3) without staying", hall.reach(3), 15);
        Check.dueIndex("reach(6)", () -> hall.reach(6));
        Check.dueIndex("reach(-1)", () -> hall.reach(-1));
    }

    private static void closed() {
        ChanceHall hall = new ChanceHall();
        Check.due("closed() of one state", hall.closed(), 1);
        hall.begin(6, 1);
        Check.due("closed() of what stays", hall.closed(), 6);
        hall.lead(0, 0, 1);
        Check.due("closed() with one that leaves", hall.closed(), 5);
        hall.lead(1, 0, 0);
        Check.due("closed() with a class of two", hall.closed(), 5);
        hall.lead(2, 0, 0);
        hall.lead(3, 0, 2);
        Check.due("closed() with ways to it", hall.closed(), 3);
        Check.due("closed() of a circle", circle(6, 3).closed(), 1);
    }

    private static void period() {
        ChanceHall hall = new ChanceHall();
        Check.due("period(0) of one state", hall.period(0), 1);
        for (int states = 1; states <= 6; states++) {
            Check.due("period of a circle of " + states, circle(states, 2).period(states - 1), states);
        }
        hall.begin(3, 1);
        hall.lead(0, 0, 1);
        hall.lead(1, 0, 2);
        hall.lead(2, 0, 1);
        Check.due("period(0) without a way back", hall.period(0), 0);
        Check.due("period(1)", hall.period(1), 2);
        Check.due("period(2)", hall.period(2), 2);
        Check.dueIndex("period(3)", () -> hall.period(3));
        Check.dueIndex("period(-1)", () -> hall.period(-1));
    }

    /** Circles of 6 and 5, 4 and 2, 6 and 3: the period needs both, and some are long ways from the state. */
    private static void periodOfTwoCircles() {
        ChanceHall hall = circle(6, 2);
        hall.lead(4, 1, 0);
        Check.due("period of 6 and 5, out of the 5", hall.period(5), 1);
        hall.lead(4, 1, 5);
        hall.lead(5, 1, 2);
        Check.due("period of 6 and 4", hall.period(0), 2);
        hall.lead(5, 1, 3);
        Check.due("period of 6 and 3", hall.period(0), 3);
        Check.due("period of 6 and 3, in both", hall.period(4), 3);
        hall.lead(5, 1, 5);
        Check.due("period of 6 and 1", hall.period(0), 1);
    }

    private static void rest() {
        ChanceHall hall = new ChanceHall();
        Check.due("rest(0) of one state", hall.rest(0), 1);
        Check.due("rest(-1) of one state", hall.rest(-1), 1);
        hall.begin(3, 6);
        Check.due("rest(-1) of what stays", hall.rest(-1), 0);
        leadSome(hall, 0, 1, 1);
        leadSome(hall, 0, 2, 2);
        leadSome(hall, 1, 0, 3);
        leadSome(hall, 1, 2, 1);
        leadSome(hall, 2, 0, 4);
        leadSome(hall, 2, 1, 2);
        Check.due("rest(0)", hall.rest(0), 3 * 4 + 3 * 2 + 4);
        Check.due("rest(1)", hall.rest(1), 4 + 2 + 2 * 2);
        Check.due("rest(2)", hall.rest(2), 2 * 1 + 1 + 2 * 3);
        Check.due("rest(-1)", hall.rest(-1), 22 + 10 + 9);
        Check.dueIndex("rest(3)", () -> hall.rest(3));
        Check.dueIndex("rest(-2)", () -> hall.rest(-2));
        Check.dueIndex("rest(least)", () -> hall.rest(Integer.MIN_VALUE));
    }

    /** Lets some of the slots that still stay in a state lead to another one. */
    private static void leadSome(ChanceHall hall, int state, int to, int count) {
        int done = 0;
        for (int slot = 0; slot < 6 && done < count; slot++) {
            int was = hall.lead(state, slot, to);
            if (was == state) {
                done++;
            } else {
                hall.lead(state, slot, was);
            }
        }
    }

    private static void restOfTheMost() {
        ChanceHall hall = new ChanceHall();
        hall.begin(6, 12);
        for (int state = 0; state < 6; state++) {
            for (int slot = 0; slot < 12; slot++) {
                hall.lead(state, slot, slot % 6);
            }
        }
        Check.due("rest(3) of all to all", hall.rest(3), 1296 * 32);
        Check.due("rest(-1) of all to all", hall.rest(-1), 6 * 1296 * 32);
        ChanceHall circle = circle(6, 12);
        Check.due("rest(5) of a circle", circle.rest(5), 248832);
    }

    private static void share() {
        ChanceHall hall = new ChanceHall();
        Check.dueFloat("share(0) of one state", hall.share(0), 1f);
        hall.begin(2, 3);
        Check.dueState("share(0) of two classes", () -> hall.share(0));
        Check.dueIndex("share(2) of two classes", () -> hall.share(2));
        Check.dueIndex("share(-1) of two classes", () -> hall.share(-1));
        hall.lead(0, 0, 1);
        Check.dueFloat("share(0) of what leaves", hall.share(0), 0f);
        Check.dueFloat("share(1) where all ends", hall.share(1), 1f);
        hall.lead(1, 0, 0);
        hall.lead(1, 1, 0);
        Check.dueFloat("share(0) by thirds", hall.share(0), 2f / 3f);
        Check.dueFloat("share(1) by thirds", hall.share(1), 1f / 3f);
        Check.dueIndex("share(2)", () -> hall.share(2));
        Check.dueIndex("share(-1)", () -> hall.share(-1));
    }

    private static void ranked() {
        ChanceHall hall = new ChanceHall();
        Check.due("ranked(0) of one state", hall.ranked(0), 0);
        Check.due("ranked(1) of one state", hall.ranked(1), -1);
        hall.begin(4, 6);
        for (int rank = 0; rank < 4; rank++) {
            Check.due("ranked of rests of 0", hall.ranked(rank), rank);
        }
        hall.lead(0, 0, 1);
        hall.lead(1, 0, 2);
        hall.lead(2, 0, 3);
        hall.lead(3, 0, 0);
        hall.lead(3, 1, 0);
        hall.lead(1, 1, 2);
        int[] due = {0, 2, 1, 3};
        for (int rank = 0; rank < 4; rank++) {
            Check.due("ranked(" + rank + ")", hall.ranked(rank), due[rank]);
        }
        Check.due("ranked(4)", hall.ranked(4), -1);
        Check.due("ranked(most)", hall.ranked(Integer.MAX_VALUE), -1);
        Check.dueIndex("ranked(-1)", () -> hall.ranked(-1));
        Check.dueIndex("ranked(least)", () -> hall.ranked(Integer.MIN_VALUE));
    }
}
