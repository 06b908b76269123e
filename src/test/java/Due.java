/** Compares answers with those that are due, and counts the ones that are not. */
final class Due {
    private static final StackWalker STACK = StackWalker.getInstance();
    private static String name = "";
    private static int wrong;
    private static int compared;
    private static int comparedAhead;

    private Due() {
    }

    static void begin(String one) {
        name = one + " ";
        comparedAhead = compared;
    }

    /** A case that compares nothing holds the class to nothing. */
    static void isNotEmpty() {
        is("compares", compared > comparedAhead ? 1 : 0, 1);
    }

    static void is(String call, long got, long want) {
        compared++;
        if (got != want) {
            wrong++;
            System.out.println(name + call + " answered " + got + ", due is " + want);
        }
    }

    static void is(long got, long want) {
        compared++;
        if (got != want) {
            wrong++;
            System.out.println(name + line() + " answered " + got + ", due is " + want);
        }
    }

    static void are(String call, long[] got, long... want) {
        is(call + ": how many", got.length, want.length);
        for (int i = 0; i < Math.min(got.length, want.length); i++) {
            is(call + " [" + i + "]", got[i], want[i]);
        }
    }

    static void are(long[] got, long... want) {
        are(line(), got, want);
    }

    /** The line of the test that asks, where it says nothing of its own. */
    private static String line() {
        return STACK.walk(frames -> frames.filter(f -> !f.getClassName().equals("Due")).findFirst())
            .map(f -> f.getFileName() + ":" + f.getLineNumber()).orElse("?");
    }

    static boolean allRight() {
        return wrong == 0;
    }

    static void end() {
        System.out.println(compared + " answers compared, " + wrong + " not as due");
        if (wrong != 0) {
            System.exit(1);
        }
    }
}
