/** Counts the answers that are not as due, for the main method of a test. */
final class Check {
    /** A call of the program, which may throw. */
    interface Call {
        Object answer();
    }

    /** A call of the program that answers nothing, which may throw. */
    interface Change {
        void make();
    }

    private int calls = 0;
    private int wrong = 0;
    private String place = "";

    /** Runs the test of these words of the document; what is wrong in it is told with them, even if it breaks off. */
    void sentence(String where, String words, Change test) {
        place = where + ", \"" + words + "\": ";
        due("the document lacks these words", false, () -> Document.lacks(where, words));
        done("the test as a whole", test);
    }

    /** The answer as a text, or "throws." with the name of the exception. */
    static String told(Call call) {
        try {
            return String.valueOf(call.answer());
        } catch (RuntimeException e) {
            return "throws." + e.getClass().getSimpleName();
        }
    }

    static Call asCall(Change change) {
        return () -> {
            change.make();
            return "done";
        };
    }

    void due(String name, Object want, Call call) {
        calls++;
        String got = told(call);
        if (!got.equals(String.valueOf(want))) {
            wrong++;
            System.out.println(place + name + " answered " + got + ", due is " + want);
        }
    }

    void done(String name, Change change) {
        due(name, "done", asCall(change));
    }

    void badState(String name, Call call) {
        due(name, "throws.IllegalStateException", call);
    }

    void badArgument(String name, Call call) {
        due(name, "throws.IllegalArgumentException", call);
    }

    void badIndex(String name, Call call) {
        due(name, "throws.IndexOutOfBoundsException", call);
    }

    void badArgument(String name, Change change) {
        badArgument(name, asCall(change));
    }

    void badIndex(String name, Change change) {
        badIndex(name, asCall(change));
    }

    void finish() {
        System.out.println(calls + " answers, " + wrong + " of them not as due");
        if (wrong != 0) {
            System.exit(1);
        }
    }
}
