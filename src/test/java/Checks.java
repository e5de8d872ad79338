/** What the tests share: it counts wrong answers, prints them, and ends the program with 1 if there were some. */
final class Checks {
    static final String INDEX = "throws IndexOutOfBoundsException";
    static final String ARGUMENT = "throws IllegalArgumentException";
    static final String STATE = "throws IllegalStateException";

    private static int asked = 0;
    private static int wrong = 0;
    private static String sentence = "";
    private static int askedAhead = 0;

    private Checks() {
    }

    /** A call whose answer is wanted, or the exception that it throws. */
    interface Call {
        Object answer();
    }

    /** How an object is made, and brought to where the test wants it: always to the same state. */
    interface Making {
        Steplode field();
    }

    /** A call of an object. */
    interface Asking {
        Object answerOf(Steplode field);
    }

    static String outcome(Call call) {
        try {
            return String.valueOf(call.answer());
        } catch (RuntimeException e) {
            return "throws " + e.getClass().getSimpleName();
        }
    }

    static void due(String what, Object want, Call call) {
        same(what, String.valueOf(want), outcome(call));
    }

    /** The exception is due, and behind it the object tells the same as one of which nothing was asked. */
    static void refused(String what, String want, Making making, Asking asking) {
        Steplode field = making.field();
        due(what, want, () -> asking.answerOf(field));
        same(what + ": nothing is changed", Fields.allThatIsTold(making.field()), Fields.allThatIsTold(field));
    }

    static void same(String what, String want, String got) {
        asked++;
        if (!want.equals(got)) {
            wrong++;
            System.out.println(sentence + what + " answered " + got + ", due is " + want);
        }
    }

    /** What is asked from here on stands for this sentence. */
    static void beginSentence(String told) {
        sentence = "[" + told + "] ";
        askedAhead = asked;
    }

    static void endSentence() {
        same("is asked for", "true", "" + (asked > askedAhead));
        sentence = "";
    }

    static void end() {
        System.out.println(wrong == 0 ? asked + " answers are as due" : wrong + " answers are not as due");
        if (wrong != 0) {
            System.exit(1);
        }
    }
}
