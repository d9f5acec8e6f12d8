import java.util.NoSuchElementException;

/** Compares what calls answer with what is due, prints each difference, and counts them. */
final class Due {
    interface Call {
        Object answer();
    }

    static final Class<?> INDEX = IndexOutOfBoundsException.class;
    static final Class<?> ARGUMENT = IllegalArgumentException.class;
    static final Class<?> STATE = IllegalStateException.class;
    static final Class<?> UNSUPPORTED = UnsupportedOperationException.class;
    static final Class<?> NO_ELEMENT = NoSuchElementException.class;
    static final Class<?> ARITHMETIC = ArithmeticException.class;

    private static String sentence = "";
    private static int checks = 0;
    private static int wrong = 0;

    private Due() {
    }

    /** The answers from here on are due by this sentence of the document. */
    static void says(String words) {
        sentence = "\"" + words + "\" ";
    }

    /** The answer is due; or, if it is a class, that the call throws just this exception. */
    static void is(String what, Object due, Call call) {
        Object got;
        try {
            got = call.answer();
        } catch (RuntimeException e) {
            got = isThrownByPress(e) ? e.getClass() : "an exception of the machine: " + e;
        }
        checks++;
        if (!due.equals(got)) {
            wrong++;
            System.out.println(sentence + what + ": answered " + got + ", due is " + due);
        }
    }

    /** Whether a throw of the class itself made it, not the Java machine or library. */
    static boolean isThrownByPress(Throwable e) {
        StackTraceElement[] calls = e.getStackTrace();
        boolean isOfMachine = e instanceof ArrayIndexOutOfBoundsException
                || e instanceof StringIndexOutOfBoundsException;
        return !isOfMachine && calls.length > 0 && calls[0].getClassName().equals("RiddlePress");
    }

    /** Ends the test, with the exit code 1 if an answer was not as due. */
    static void end() {
        System.out.println(checks + " answers, " + wrong + " not as due");
        if (wrong != 0 || checks == 0) {
            System.exit(1);
        }
    }
}
