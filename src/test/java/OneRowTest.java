import java.util.ArrayList;
import java.util.List;

/**
 * Promises 7 to 14 for every program with one variable and one row (of c and e the ends and the middle alone), each
 * answer beside the one that a line of school arithmetic gives.
 */
public final class OneRowTest {
    private static final int[] FEW = {-9, 0, 9};

    /** The x that are feasible at some t; high is null where there is no greatest. */
    private static final class Span {
        boolean empty = false;
        Rational low = Rational.ZERO;
        Rational high = null;
    }

    private final Check check = new Check();
    private int a;
    private int sense;
    private int b;
    private int c;
    private int e;

    private OneRowTest() {
    }

    public static void main(String[] args) {
        OneRowTest test = new OneRowTest();
        for (int a = -9; a <= 9; a++) {
            for (int sense = 0; sense < 3; sense++) {
                for (int b = -50; b <= 50; b++) {
                    test.askRow(a, sense, b);
                }
            }
        }
        test.check.finish();
    }

    private void askRow(int factor, int meaning, int right) {
        a = factor;
        sense = meaning;
        b = right;
        RationalProgram x = Ask.wanting(1, 0);
        Ask.setRow(x, 0, sense, b, a);
        for (int drift : FEW) {
            e = drift;
            x.drift(0, e);
            for (int worth : FEW) {
                c = worth;
                x.want(0, c);
                String row = a + " x(0), sense " + sense + ", right side " + b + ", drift " + e + ", worth " + c;
                check.due(row, due(), () -> Ask.everything(x, 1, 1));
            }
        }
    }

    private Span spanAt(Rational t) {
        Rational right = Rational.of(b).plus(Rational.of(e).times(t));
        int sign = right.compareTo(Rational.ZERO);
        Span span = new Span();
        if (a == 0) {
            span.empty = sense == 0 ? sign < 0 : sense == 1 ? sign != 0 : sign > 0;
            return span;
        }
        Rational end = right.times(Rational.of(1, a));
        boolean isEndNegative = end.compareTo(Rational.ZERO) < 0;
        boolean isBoundBelow = sense == (a > 0 ? 2 : 0);
        if (isBoundBelow) {
            span.low = isEndNegative ? Rational.ZERO : end;
            return span;
        }
        span.empty = isEndNegative;
        span.low = sense == 1 ? end : Rational.ZERO;
        span.high = end;
        return span;
    }

    /** As Ask.everything tells it. */
    private String due() {
        Span span = spanAt(Rational.ZERO);
        String state = Edges.STATE;
        if (span.empty) {
            return String.join("|", "1", state, state, state, state, state, "1", corners());
        }
        String range = span.low + "|" + (span.high == null ? Edges.NO_WAY : span.high);
        if (isUnbounded(span)) {
            return String.join("|", "2", state, state, range, state, state, "");
        }
        Rational best = c > 0 ? span.high : span.low;
        String tight = String.valueOf(isTight(span));
        return String.join("|", "0", worth(span) + "|" + best, range, tight, state, corners());
    }

    private boolean isUnbounded(Span span) {
        return c > 0 && span.high == null;
    }

    private Rational worth(Span span) {
        return Rational.of(c).times(c > 0 ? span.high : span.low);
    }

    private boolean isTight(Span span) {
        Rational best = c > 0 ? span.high : span.low;
        boolean isOnlyBest = c != 0 || span.high != null && span.high.compareTo(span.low) == 0;
        return Rational.of(a).times(best).compareTo(Rational.of(b)) == 0 && (a == 0 || isOnlyBest);
    }

    /** Nothing can change between 0 and 1 but where the drifting right side is 0. */
    private String corners() {
        List<Rational> times = new ArrayList<>(List.of(Rational.ZERO));
        if (e != 0 && Rational.of(-b, e).compareTo(Rational.ZERO) > 0 && Rational.of(-b, e).compareTo(Rational.ONE) < 0) {
            times.add(Rational.of(-b, e));
        }
        times.add(Rational.ONE);
        times.removeIf(t -> spanAt(t).empty);
        if (times.isEmpty() || isUnbounded(spanAt(times.get(0)))) {
            return "";
        }
        if (times.size() == 3 && !isBent(times.get(1))) {
            times.remove(1);
        }
        List<String> all = new ArrayList<>();
        for (Rational t : times) {
            all.add(t + ":" + worth(spanAt(t)));
        }
        return String.join(" ", all);
    }

    private boolean isBent(Rational t) {
        Rational start = worth(spanAt(Rational.ZERO));
        Rational end = worth(spanAt(Rational.ONE));
        Rational onLine = start.plus(end.minus(start).times(t));
        return onLine.compareTo(worth(spanAt(t))) != 0;
    }
}
