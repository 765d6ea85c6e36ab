/** Promises 24 to 29: games, stopping, reversing, lumps. */
public final class GamesTest {
    private static final long MOST_WORDS = 8916100448256L;

    public static void main(String[] args) {
        drift();
        isFair();
        best();
        bestOfTheMost();
        stops();
        reverses();
        isLumped();
        isLumpedByEachColour();
        Check.end();
    }

    /** A fair walk on 0, 1, 2 that ends at 0 and at 2. */
    private static ChanceHall walker() {
        ChanceHall hall = new ChanceHall();
        hall.begin(3, 2);
        hall.lead(1, 0, 0);
        hall.lead(1, 1, 2);
        return hall;
    }

    private static void drift() {
        ChanceHall hall = walker();
        Check.due("drift(1) without pays", hall.drift(1), 0);
        hall.pay(0, -4);
        hall.pay(1, 10);
        hall.pay(2, 7);
        Check.due("drift(1)", hall.drift(1), -4 + 7 - 20);
        Check.due("drift(0)", hall.drift(0), 0);
        Check.dueIndex("drift(3)", () -> hall.drift(3));
        Check.dueIndex("drift(-1)", () -> hall.drift(-1));
        hall.begin(2, 12);
        hall.pay(0, 100000);
        hall.pay(1, -100000);
        for (int slot = 0; slot < 12; slot++) {
            hall.lead(0, slot, 1);
            hall.lead(1, slot, 0);
        }
        Check.due("drift(0) of the least", hall.drift(0), -2400000);
        Check.due("drift(1) of the most", hall.drift(1), 2400000);
    }

    private static void isFair() {
        ChanceHall hall = walker();
        Check.due("isFair() without pays", hall.isFair(), true);
        hall.pay(0, -10);
        hall.pay(2, 10);
        Check.due("isFair() of a fair walk", hall.isFair(), true);
        hall.pay(1, 1);
        Check.due("isFair() with another middle", hall.isFair(), false);
        hall.pay(1, 0);
        hall.lead(2, 0, 1);
        Check.due("isFair() with an unfair last state", hall.isFair(), false);
        hall.begin(2, 2);
        hall.pay(0, 1);
        hall.lead(0, 0, 1);
        hall.lead(1, 0, 0);
        Check.due("isFair() of drifts of the sum 0", hall.isFair(), false);
    }

    private static void best() {
        ChanceHall hall = walker();
        hall.lead(2, 0, 1);
        hall.pay(0, 0);
        hall.pay(1, 1);
        hall.pay(2, 8);
        Check.due("best(1, 0)", hall.best(1, 0), 1);
        Check.due("best(1, 1)", hall.best(1, 1), 8);
        Check.due("best(2, 1)", hall.best(2, 1), 16);
        Check.due("best(1, 2)", hall.best(1, 2), 16);
        Check.due("best(0, 12)", hall.best(0, 12), 0);
        hall.pay(0, -3);
        hall.pay(1, -9);
        hall.pay(2, -5);
        Check.due("best(1, 1) below 0", hall.best(1, 1), -8);
        Check.due("best(2, 2) below 0", hall.best(2, 2), -5 * 2 - 8);
        Check.dueArgument("best(0, 13)", () -> hall.best(0, 13));
        Check.dueArgument("best(0, -1)", () -> hall.best(0, -1));
        Check.dueIndex("best(3, 0)", () -> hall.best(3, 0));
        Check.dueIndex("best(-1, 13)", () -> hall.best(-1, 13));
    }

    private static void bestOfTheMost() {
        ChanceHall hall = new ChanceHall();
        hall.begin(6, 12);
        hall.pay(5, 100000);
        Check.due("best(5, 12)", hall.best(5, 12), 100000 * MOST_WORDS);
        hall.pay(5, -100000);
        Check.due("best(5, 12) of the least", hall.best(5, 12), -100000 * MOST_WORDS);
        hall.lead(5, 11, 0);
        Check.due("best(5, 12) with one way out", hall.best(5, 12), -100000L * 3138428376721L);
    }

    private static void stops() {
        ChanceHall hall = walker();
        hall.pay(0, -10);
        hall.pay(2, 10);
        Check.due("stops(1, 0)", hall.stops(1, 0), true);
        Check.due("stops(1, 1), as good as going on", hall.stops(1, 1), true);
        hall.pay(1, -1);
        Check.due("stops(1, 0), though going on is better", hall.stops(1, 0), true);
        Check.due("stops(1, 1), though going on is better", hall.stops(1, 1), false);
        Check.due("stops(2, 12)", hall.stops(2, 12), true);
        laterBetter();
        Check.dueArgument("stops(0, 13)", () -> hall.stops(0, 13));
        Check.dueArgument("stops(0, -1)", () -> hall.stops(0, -1));
        Check.dueIndex("stops(3, 0)", () -> hall.stops(3, 0));
        Check.dueIndex("stops(-1, -1)", () -> hall.stops(-1, -1));
    }

    /** The great pay is two steps away: with one step left it is better to stop, with two it is not. */
    private static void laterBetter() {
        ChanceHall hall = new ChanceHall();
        hall.begin(3, 1);
        hall.lead(0, 0, 1);
        hall.lead(1, 0, 2);
        hall.pay(0, 5);
        hall.pay(2, 6);
        Check.due("stops(0, 1)", hall.stops(0, 1), true);
        Check.due("stops(0, 2)", hall.stops(0, 2), false);
        Check.due("stops(0, 12)", hall.stops(0, 12), false);
        Check.due("best(0, 2)", hall.best(0, 2), 6);
    }

    private static void reverses() {
        ChanceHall hall = new ChanceHall();
        Check.due("reverses() of one state", hall.reverses(), true);
        hall.begin(2, 2);
        Check.due("reverses() of two classes", hall.reverses(), false);
        hall.lead(0, 0, 1);
        Check.due("reverses() of what leaves", hall.reverses(), true);
        hall.lead(1, 0, 0);
        hall.lead(1, 1, 0);
        Check.due("reverses() of two states", hall.reverses(), true);
        hall.begin(3, 2);
        hall.lead(0, 0, 1);
        hall.lead(1, 0, 2);
        hall.lead(2, 0, 0);
        Check.due("reverses() of a circle", hall.reverses(), false);
        hall.lead(0, 1, 2);
        hall.lead(1, 1, 0);
        hall.lead(2, 1, 1);
        Check.due("reverses() of a circle both ways", hall.reverses(), true);
        hall.lead(2, 1, 2);
        Check.due("reverses() of a circle with one way less", hall.reverses(), false);
    }

    private static void isLumped() {
        ChanceHall hall = walker();
        Check.due("isLumped() of one colour", hall.isLumped(), true);
        hall.colour(1, 1);
        Check.due("isLumped() of two ends and a middle", hall.isLumped(), true);
        hall.colour(2, 1);
        Check.due("isLumped() of an end and a middle", hall.isLumped(), false);
        hall.colour(0, 5);
        hall.colour(2, 4);
        Check.due("isLumped() of three colours", hall.isLumped(), true);
        ChanceHall one = new ChanceHall();
        Check.due("isLumped() of one state", one.isLumped(), true);
    }

    /** The last two states of six are of one colour and lead differently to one colour, and so to one more. */
    private static void isLumpedByEachColour() {
        for (int colour = 0; colour < 6; colour++) {
            ChanceHall hall = new ChanceHall();
            hall.begin(6, 2);
            int other = colour == 0 ? 5 : 0;
            hall.colour(0, colour);
            hall.colour(1, colour);
            hall.colour(2, other);
            hall.colour(3, other);
            hall.colour(4, colour == 3 ? 2 : 3);
            hall.colour(5, colour == 3 ? 2 : 3);
            hall.lead(4, 0, 0);
            hall.lead(5, 1, 1);
            Check.due("isLumped() by colour " + colour, hall.isLumped(), true);
            hall.lead(5, 1, 2);
            Check.due("isLumped() not by colour " + colour, hall.isLumped(), false);
            hall.lead(4, 0, 3);
            Check.due("isLumped() by colour " + other, hall.isLumped(), true);
        }
    }
}
