/** Counts and prints the answers that are not as due; shared by the tests of the project. */
final class Check {
    static final Class<?> ARGUMENT = IllegalArgumentException.class;
    static final Class<?> STATE = IllegalStateException.class;
    static final Class<?> ARITHMETIC = ArithmeticException.class;

    private int wrong = 0;
    private String sentence = "";

    /** The sentence of the document that what follows is about; a fault is told with it. */
    void about(String where, String words) {
        sentence = where + ", \"" + words + "\": ";
    }

    void due(String call, long got, long want) {
        if (got != want) {
            tell(call + " answered " + got + ", due is " + want);
        }
    }

    void due(String call, String got, String want) {
        if (!got.equals(want)) {
            tell(call + " answered\n    " + got + "\n  due is\n    " + want);
        }
    }

    void holds(String what, boolean held) {
        if (!held) {
            tell(what + " does not hold");
        }
    }

    /** The class that the call throws must be exactly this one; null if none is due. */
    void thrown(String call, Class<?> want, Runnable run) {
        Class<?> got = null;
        try {
            run.run();
        } catch (RuntimeException e) {
            got = e.getClass();
        }
        if (got != want) {
            tell(call + " threw " + got + ", due is " + want);
        }
    }

    void tell(String fault) {
        wrong++;
        if (wrong <= 40) {
            System.out.println(sentence + fault);
        }
    }

    void end() {
        System.out.println(wrong == 0 ? "all answers are as due" : wrong + " answers are not as due");
        System.exit(wrong == 0 ? 0 : 1);
    }
}
