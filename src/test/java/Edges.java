import java.util.ArrayList;
import java.util.List;

/** What the tests of boundary cases share: numbers at an edge, programs of every size, calls that may be refused. */
final class Edges {
    static final String DONE = "done";
    static final String ANSWERS = "answers";
    static final String STATE = "throws.IllegalStateException";
    static final String INDEX = "throws.IndexOutOfBoundsException";
    static final String ARGUMENT = "throws.IllegalArgumentException";
    static final String NO_WAY = "throws.UnsupportedOperationException";

    /** A call on a program, which may be refused. */
    interface Touch {
        void on(RationalProgram x);
    }

    /** What is to be done for each number of variables and of rows. */
    interface Size {
        void of(int n, int m);
    }

    /** The farthest numbers, and such as look like small ones to a byte, a short or a shift that wraps around. */
    private static final List<Integer> FAR = List.of(Integer.MIN_VALUE, Integer.MAX_VALUE, Integer.MIN_VALUE + 1,
            256, -256, 65536, -65536, 32, -32);

    private Edges() {
    }

    /** All that is taken from least to greatest, the first two outside on both sides, and some far outside. */
    static int[] around(int least, int greatest) {
        List<Integer> found = new ArrayList<>(FAR);
        for (int v = least - 2; v <= greatest + 2; v++) {
            found.add(v);
        }
        return found.stream().mapToInt(Integer::intValue).toArray();
    }

    /** The numbers around a span that are outside it. */
    static int[] outside(int least, int greatest) {
        return new int[] {least - 1, greatest + 1, Integer.MIN_VALUE, Integer.MAX_VALUE};
    }

    static void inEverySize(Size size) {
        for (int n = 1; n <= 4; n++) {
            for (int m = 0; m <= 3; m++) {
                size.of(n, m);
            }
        }
    }

    static boolean isIn(int v, int least, int greatest) {
        return v >= least && v <= greatest;
    }

    /** Whether a call answers, whatever it answers, or which exception it throws. */
    static Check.Call answering(Check.Call call) {
        return () -> {
            String told = Check.told(call);
            return told.startsWith("throws.") ? told : ANSWERS;
        };
    }

    static Check.Call touching(RationalProgram x, Touch touch) {
        return Check.asCall(() -> touch.on(x));
    }

    /** The program of these numbers after the call, whether it was refused or not. */
    static RationalProgram touched(Numbers numbers, Touch touch) {
        RationalProgram x = numbers.make();
        Check.told(touching(x, touch));
        return x;
    }
}
