/** Counts what is as due and what is not; says what is not. */
final class Check {
    private static int passed = 0;
    private static int failed = 0;

    private Check() {
    }

    interface Call {
        Object answer();
    }

    /** What a call answers: its number, a truth as 1 or 0, or the name of what it throws. */
    static String answerOf(Call call) {
        try {
            Object answer = call.answer();
            return answer instanceof Boolean b ? (b ? "1" : "0") : String.valueOf(answer);
        } catch (RuntimeException e) {
            return "throws." + e.getClass().getSimpleName();
        }
    }

    static void due(String what, Call call, String want) {
        that(what, answerOf(call), want);
    }

    static void due(String what, Call call, long want) {
        that(what, answerOf(call), String.valueOf(want));
    }

    /** NoSuchElementException. */
    static void noSuch(String what, Call call) {
        that(what, answerOf(call), "throws.NoSuchElementException");
    }

    /** IllegalArgumentException. */
    static void illegal(String what, Call call) {
        that(what, answerOf(call), "throws.IllegalArgumentException");
    }

    static void that(String what, String got, String want) {
        if (got.equals(want)) {
            passed++;
        } else {
            failed++;
            if (failed <= 60) {
                System.out.println(what + ": answered " + got + ", due is " + want);
            }
        }
    }

    static int failures() {
        return failed;
    }

    static void say() {
        System.out.println(passed + " passed, " + failed + " failed");
    }
}
