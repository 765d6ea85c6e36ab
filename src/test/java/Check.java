/** Counts and prints the answers that are not as due; each test ends by it. */
final class Check {
    private static int wrong = 0;
    private static long looked = 0;
    private static String part = "";

    private Check() {
    }

    interface Call {
        void make();
    }

    /** What is looked at from here on; faults are told with it. */
    static void beginPart(String name) {
        part = name;
    }

    /** How many answers have been looked at: a test that looks at none would hold always. */
    static long countLooked() {
        return looked;
    }

    static void due(String call, long got, long want) {
        looked++;
        if (got != want) {
            say(call + " answered " + got + ", due is " + want);
        }
    }

    static void due(String call, boolean got, boolean want) {
        looked++;
        if (got != want) {
            say(call + " answered " + got + ", due is " + want);
        }
    }

    static void dueFloat(String call, float got, float want) {
        looked++;
        if (Float.floatToIntBits(got) != Float.floatToIntBits(want)) {
            say(call + " answered " + got + ", due is " + want);
        }
    }

    /** The very class is due, not one below it: an ArrayIndexOutOfBoundsException is the machine's own. */
    static void dueThrow(String call, Call made, Class<? extends RuntimeException> want) {
        looked++;
        try {
            made.make();
        } catch (RuntimeException thrown) {
            if (thrown.getClass() != want) {
                say(call + " threw " + thrown + ", due is " + want.getName());
            }
            return;
        }
        say(call + " threw nothing, due is " + want.getName());
    }

    static void dueIndex(String call, Call made) {
        dueThrow(call, made, IndexOutOfBoundsException.class);
    }

    static void dueArgument(String call, Call made) {
        dueThrow(call, made, IllegalArgumentException.class);
    }

    static void dueState(String call, Call made) {
        dueThrow(call, made, IllegalStateException.class);
    }

    static void say(String fault) {
        wrong++;
        if (wrong <= 20) {
            System.out.println(part.isEmpty() ? fault : part + ": " + fault);
        }
    }

    static void end() {
        System.out.println(wrong == 0 ? "all answers are as due" : wrong + " answers are not as due");
        if (wrong != 0) {
            System.exit(1);
        }
    }
}
