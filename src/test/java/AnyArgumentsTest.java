import java.lang.reflect.InvocationTargetException;
import java.lang.reflect.Method;
import java.util.ArrayList;
import java.util.Arrays;
import java.util.List;

/**
 * All calls with all kinds of arguments, in many states: each throws just the exception that goes first,
 * itself and not one below it; what throws, and what only asks, changes nothing.
 */
public final class AnyArgumentsTest {
    private static final int[] VALUES = {
        Integer.MIN_VALUE, -100001, -100000, -2, -1, 0, 1, 2, 3, 4, 5, 6, 7, 11, 12, 13, 200, 999, 1000, 1001,
        65520, 65521, 99999, 100000, 100001, Integer.MAX_VALUE};

    private final Numbers numbers = new Numbers(2026);
    private final List<Method> methods = new ArrayList<>();
    private ChanceHall hall;
    private int states;
    private int slots;

    public static void main(String[] args) throws IllegalAccessException {
        new AnyArgumentsTest().run();
        Check.end();
    }

    private void run() throws IllegalAccessException {
        for (Method method : ChanceHall.class.getDeclaredMethods()) {
            if (java.lang.reflect.Modifier.isPublic(method.getModifiers())) {
                methods.add(method);
            }
        }
        methods.sort((one, other) -> one.getName().compareTo(other.getName()));
        for (int object = 0; object < 200; object++) {
            hall = new ChanceHall();
            states = 1;
            slots = 1;
            for (int call = 0; call < 400; call++) {
                callOne(methods.get(numbers.below(methods.size())));
            }
        }
    }

    private void callOne(Method method) throws IllegalAccessException {
        Object[] arguments = new Object[method.getParameterCount()];
        for (int i = 0; i < arguments.length; i++) {
            arguments[i] = numbers.below(4) == 0 ? VALUES[numbers.below(VALUES.length)] : numbers.below(7);
        }
        String before = picture();
        Class<?> due = dueOf(method.getName(), arguments);
        Class<?> got = null;
        try {
            method.invoke(hall, arguments);
        } catch (InvocationTargetException thrown) {
            got = thrown.getCause().getClass();
        }
        if (due != got) {
            Check.say(states + " states, " + slots + " slots: " + method.getName() + Arrays.toString(arguments)
                + " threw " + got + ", due is " + due);
        }
        if (got == null && method.getName().equals("begin")) {
            states = (int) arguments[0];
            slots = (int) arguments[1];
        } else if (got != null || !isChange(method.getName())) {
            if (!before.equals(picture())) {
                Check.say(method.getName() + Arrays.toString(arguments) + " changed something");
            }
        }
    }

    private static boolean isChange(String name) {
        return Arrays.asList("begin", "lead", "swap", "pay", "colour").contains(name);
    }

    /** What the object holds, read by calls that set what they find. */
    private String picture() {
        StringBuilder text = new StringBuilder();
        for (int state = 0; state < states; state++) {
            for (int slot = 0; slot < slots; slot++) {
                int to = hall.lead(state, slot, 0);
                hall.lead(state, slot, to);
                text.append(to).append(' ');
            }
            int pay = hall.pay(state, 0);
            hall.pay(state, pay);
            int colour = hall.colour(state, 0);
            hall.colour(state, colour);
            text.append(pay).append(' ').append(colour).append('\n');
        }
        return text.append(hall.words(1)).toString();
    }

    private Class<?> dueOf(String name, Object[] arguments) {
        int a = arguments.length > 0 ? (int) arguments[0] : 0;
        int b = arguments.length > 1 ? (int) arguments[1] : 0;
        int c = arguments.length > 2 ? (int) arguments[2] : 0;
        switch (name) {
            case "begin":
                return first(true, isIn(a, 1, 6) && isIn(b, 1, 12));
            case "lead":
                return first(isState(a) && isSlot(b) && isState(c), true);
            case "swap":
                return first(isState(a) && isSlot(b) && isSlot(c), true);
            case "pay":
                return first(isState(a), isIn(b, -100000, 100000));
            case "colour":
                return first(isState(a), isIn(b, 0, 5));
            case "weight":
                return first(isState(a) && isState(b), true);
            case "words":
                return first(true, isIn(a, 0, 12));
            case "law":
            case "hits":
                return first(isState(a) && isState(c), isIn(b, 0, 12));
            case "lawAnew":
                return first(isState(a) && isState(c), isIn(b, 0, 4));
            case "distance":
            case "apart":
                return first(isState(a) && isState(b), isIn(c, 0, 12));
            case "mixing":
                return first(true, isIn(a, 0, 1000));
            case "together":
                return first(isState(b), isIn(a, 0, 12));
            case "reach":
            case "period":
            case "drift":
                return first(isState(a), true);
            case "rest":
                return first(a == -1 || isState(a), true);
            case "share":
                return !isState(a) ? IndexOutOfBoundsException.class
                    : hall.closed() > 1 ? IllegalStateException.class : null;
            case "ranked":
                return first(a >= 0, true);
            case "walk":
                return first(isState(a), isIn(b, 0, 65520) && isIn(c, 0, 1000));
            case "draw":
                return first(true, isIn(a, 0, 65520));
            case "best":
            case "stops":
                return first(isState(a), isIn(b, 0, 12));
            default:
                return null;
        }
    }

    private static Class<?> first(boolean exists, boolean inRange) {
        return !exists ? IndexOutOfBoundsException.class : !inRange ? IllegalArgumentException.class : null;
    }

    private boolean isState(int value) {
        return isIn(value, 0, states - 1);
    }

    private boolean isSlot(int value) {
        return isIn(value, 0, slots - 1);
    }

    private static boolean isIn(int value, int least, int most) {
        return least <= value && value <= most;
    }
}
