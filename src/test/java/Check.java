/** Counts what is as due and what is not, and tells the latter. */
final class Check {
    interface Call {
        long answer();
    }

    private static int passed;
    private static int failed;
    private static String part = "";

    private Check() { }

    static void part(String name) {
        part = name;
    }

    static void due(String what, long want, long got) {
        if (got == want) {
            passed++;
        } else {
            failed++;
            System.out.println(part + ": " + what + " answered " + got + ", due is " + want);
        }
    }

    static void due(String what, boolean want, boolean got) {
        due(what, want ? 1 : 0, got ? 1 : 0);
    }

    static void due(String what, String want, String got) {
        if (got.equals(want)) {
            passed++;
        } else {
            failed++;
            System.out.println(part + ": " + what + " answered " + got + ", due is " + want);
        }
    }

    /** That the call throws an exception of exactly this class. */
    static void isThrown(String what, Class<? extends RuntimeException> want, Call call) {
        due(what, "throws." + want.getSimpleName(), answerOf(call));
    }

    static void isIndex(String what, Call call) {
        isThrown(what, IndexOutOfBoundsException.class, call);
    }

    static void isArgument(String what, Call call) {
        isThrown(what, IllegalArgumentException.class, call);
    }

    static void isState(String what, Call call) {
        isThrown(what, IllegalStateException.class, call);
    }

    /** The answer as a text; throws.NAME if the call throws. */
    static String answerOf(Call call) {
        try {
            return String.valueOf(call.answer());
        } catch (RuntimeException | Error e) {
            return "throws." + e.getClass().getSimpleName();
        }
    }

    /** Tells the count and ends the program, with 1 if anything was not as due. */
    static void end() {
        System.out.println(passed + " passed, " + failed + " failed");
        System.exit(failed == 0 && passed > 0 ? 0 : 1);
    }
}
