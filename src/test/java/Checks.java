/** What the tests share: it counts wrong answers, prints them, and ends the program with 1 if there were some. */
final class Checks {
    static final String INDEX = "throws IndexOutOfBoundsException";
    static final String ARGUMENT = "throws IllegalArgumentException";
    static final String STATE = "throws IllegalStateException";

    private static int asked = 0;
    private static int wrong = 0;

    private Checks() {
    }

    /** A call whose answer is wanted, or the exception that it throws. */
    interface Call {
        Object answer();
    }

    static String outcome(Call call) {
        try {
            return String.valueOf(call.answer());
        } catch (RuntimeException e) {
            return "throws " + e.getClass().getSimpleName();
        }
    }

    static void due(String what, Object want, Call call) {
        same(what, String.valueOf(want), outcome(call));
    }

    /**
     * The exception is due, and the object's checksum may not be another behind it: that tells nearly all that it can
     * be asked in one call, where an object has but 512.
     */
    static void refused(String what, String want, Steplode field, Call call) {
        long before = field.digest();
        due(what, want, call);
        due(what + ": nothing is changed", before, () -> field.digest());
    }

    static void same(String what, String want, String got) {
        asked++;
        if (!want.equals(got)) {
            wrong++;
            System.out.println(what + " answered " + got + ", due is " + want);
        }
    }

    static void end() {
        System.out.println(wrong == 0 ? asked + " answers are as due" : wrong + " answers are not as due");
        if (wrong != 0) {
            System.exit(1);
        }
    }
}
