/** Counts and prints the answers that are not as due; each test ends by it. */
final class Check {
    private static int wrong = 0;

    private Check() {
    }

    interface Call {
        void make();
    }

    static void due(String call, long got, long want) {
        if (got != want) {
            say(call + " answered " + got + ", due is " + want);
        }
    }

    static void due(String call, boolean got, boolean want) {
        if (got != want) {
            say(call + " answered " + got + ", due is " + want);
        }
    }

    static void dueFloat(String call, float got, float want) {
        if (Float.floatToIntBits(got) != Float.floatToIntBits(want)) {
            say(call + " answered " + got + ", due is " + want);
        }
    }

    /** The very class is due, not one below it: an ArrayIndexOutOfBoundsException is the machine's own. */
    static void dueThrow(String call, Call made, Class<? extends RuntimeException> want) {
        try {
            made.make();
        } catch (RuntimeException thrown) {
            if (thrown.getClass() != want) {
                say(call + " threw " + thrown + ", due is " + want.getName());
            }
            return;
        }
        say(call + " threw nothing, due is " + want.getName());
    }

    static void dueIndex(String call, Call made) {
        dueThrow(call, made, IndexOutOfBoundsException.class);
    }

    static void dueArgument(String call, Call made) {
        dueThrow(call, made, IllegalArgumentException.class);
    }

    static void dueState(String call, Call made) {
        dueThrow(call, made, IllegalStateException.class);
    }

    static void say(String fault) {
        wrong++;
        if (wrong <= 20) {
            System.out.println(fault);
        }
    }

    static void end() {
        System.out.println(wrong == 0 ? "all answers are as due" : wrong + " answers are not as due");
        if (wrong != 0) {
            System.exit(1);
        }
    }
}
