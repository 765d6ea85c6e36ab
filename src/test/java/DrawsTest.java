/** Promises 22 and 23: walks and perfect draws. */
public final class DrawsTest {
    public static void main(String[] args) {
        walk();
        walkWrong();
        draw();
        drawAtMost();
        drawWrong();
        Check.end();
    }

    /** Slot k of twelve leads to k % 6: a walk's last place tells its last slot. */
    private static ChanceHall tellingSlots() {
        ChanceHall hall = new ChanceHall();
        hall.begin(6, 12);
        for (int state = 0; state < 6; state++) {
            for (int slot = 0; slot < 12; slot++) {
                hall.lead(state, slot, slot % 6);
            }
        }
        return hall;
    }

    private static void walk() {
        ChanceHall hall = tellingSlots();
        Check.due("walk(4, 9, 0)", hall.walk(4, 9, 0), 4);
        Check.due("walk(0, 0, 1)", hall.walk(0, 0, 1), 12345 % 12 % 6);
        Check.due("walk(0, 65520, 1)", hall.walk(0, 65520, 1), (12345 - 7919) % 12 % 6);
        long seed = 77;
        for (int steps = 1; steps <= 1000; steps++) {
            seed = (7919 * seed + 12345) % 65521;
            if (steps < 20 || steps > 980) {
                Check.due("walk(2, 77, " + steps + ")", hall.walk(2, 77, steps), seed % 12 % 6);
            }
        }
        walkInOrder();
    }

    /** From seed 0 the first slots drawn of two are 1 and 0; only in that order they lead from 0 to 2. */
    private static void walkInOrder() {
        ChanceHall hall = new ChanceHall();
        hall.begin(3, 2);
        hall.lead(0, 1, 1);
        hall.lead(1, 0, 2);
        Check.due("walk(0, 0, 2) in order", hall.walk(0, 0, 2), 2);
        Check.due("walk(0, 0, 2) again", hall.walk(0, 0, 2), 2);
    }

    private static void walkWrong() {
        ChanceHall hall = tellingSlots();
        Check.dueArgument("walk(0, 65521, 0)", () -> hall.walk(0, 65521, 0));
        Check.dueArgument("walk(0, -1, 0)", () -> hall.walk(0, -1, 0));
        Check.dueArgument("walk(0, 0, 1001)", () -> hall.walk(0, 0, 1001));
        Check.dueArgument("walk(0, 0, -1)", () -> hall.walk(0, 0, -1));
        Check.dueIndex("walk(6, 0, 0)", () -> hall.walk(6, 0, 0));
        Check.dueIndex("walk(-1, 0, 0)", () -> hall.walk(-1, 0, 0));
        Check.dueIndex("walk(6, 65521, 1001)", () -> hall.walk(6, 65521, 1001));
    }

    private static void draw() {
        ChanceHall hall = new ChanceHall();
        Check.due("draw(0) of one state", hall.draw(0), 0);
        hall.begin(1, 12);
        Check.due("draw(65520) of one state", hall.draw(65520), 0);
        ChanceHall telling = tellingSlots();
        Check.due("draw(0) by one slot", telling.draw(0), 6 + 12345 % 12 % 6);
        Check.due("draw(65520) by one slot", telling.draw(65520), 6 + (12345 - 7919) % 12 % 6);
        hall.begin(2, 2);
        Check.due("draw(0) of what stays", hall.draw(0), -1);
        hall.lead(0, 1, 1);
        hall.lead(1, 1, 0);
        Check.due("draw(0) of an exchange", hall.draw(0), -1);
        drawInOrder();
    }

    /** From seed 0 the first slots drawn of two are 1, 0, 0: all fall to 0 by the two zeros, and slot 1 is the last step. */
    private static void drawInOrder() {
        ChanceHall hall = new ChanceHall();
        hall.begin(3, 2);
        hall.lead(1, 0, 0);
        hall.lead(2, 0, 1);
        hall.lead(0, 1, 1);
        hall.lead(1, 1, 2);
        hall.lead(2, 1, 0);
        Check.due("draw(0) in order", hall.draw(0), 6 * 3 + 1);
        Check.due("draw(0) again", hall.draw(0), 6 * 3 + 1);
    }

    /** One slot of twelve leads down, one up, the others nowhere: it takes long, and the seeds were found by another program. */
    private static void drawAtMost() {
        ChanceHall hall = new ChanceHall();
        hall.begin(6, 12);
        for (int state = 0; state < 6; state++) {
            hall.lead(state, 0, Math.max(state - 1, 0));
            hall.lead(state, 1, Math.min(state + 1, 5));
        }
        Check.due("draw by 199 slots", hall.draw(6504), 6 * 199 + 3);
        Check.due("draw by 200 slots", hall.draw(1564), 6 * 200 + 4);
        Check.due("draw by 200 slots too", hall.draw(3284), 6 * 200 + 2);
        Check.due("draw that needs 201 slots", hall.draw(445), -1);
        Check.due("draw that needs 201 slots too", hall.draw(687), -1);
    }

    private static void drawWrong() {
        ChanceHall hall = tellingSlots();
        Check.dueArgument("draw(65521)", () -> hall.draw(65521));
        Check.dueArgument("draw(-1)", () -> hall.draw(-1));
        Check.dueArgument("draw(most)", () -> hall.draw(Integer.MAX_VALUE));
        Check.dueArgument("draw(least)", () -> hall.draw(Integer.MIN_VALUE));
    }
}
