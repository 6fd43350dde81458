import java.util.ArrayList;
import java.util.List;
import java.util.Random;

/**
 * The Terms, sentence by sentence: of many programs (the seed is fixed) the answers are held against the words' own
 * arithmetic, against all small points of whole numbers, and against each other. No other way of solving is needed.
 */
public final class TermsTest {
    private static final Check CHECK = new Check();
    private static final int EACH = 150;
    private static final int[] REACHES = {1, 2, 4, 9};
    /** The points of whole numbers go this far in each variable. */
    private static final int FARTHEST = 4;
    /** Right sides are multiplied by at most this to make those at a t whole. */
    private static final int MOST_PARTS = 4;
    private static final int MOST_RIGHT = 50;

    private static final List<Numbers> PROGRAMS = somePrograms();

    private TermsTest() {
    }

    public static void main(String[] args) {
        CHECK.sentence("Terms", "A PROGRAM has n VARIABLES x(0) .. x(n - 1)", TermsTest::variables);
        CHECK.sentence("Terms", "m ROWS 0 .. m - 1", TermsTest::rows);
        CHECK.sentence("Terms", "The sum of row i is the sum of a(i, j) * x(j) over all j", TermsTest::sums);
        CHECK.sentence("Terms", "A POINT (values of all variables) is FEASIBLE when all rows hold.",
                TermsTest::bestPointsAreFeasible);
        CHECK.sentence("Terms", "Its WORTH is the sum of c(j) * x(j).", TermsTest::worths);
        CHECK.sentence("Terms", "The program is INFEASIBLE if there is no feasible point", TermsTest::feasiblePoints);
        CHECK.sentence("Terms", "UNBOUNDED if there are feasible points of any worth, however great; else OPTIMAL",
                TermsTest::demandedWorths);
        CHECK.sentence("Terms", "those feasible points with the greatest worth are BEST",
                TermsTest::noPointIsBetter);
        CHECK.sentence("Terms", "FRACTIONS are told by two numbers without a common divisor but 1, above (what 0) and"
                + " below (what 1), the one below greater than 0; zero is 0 and 1.",
                TermsTest::fractions);
        CHECK.sentence("Terms", "for a fraction t from 0 to 1 the program AT t has the right sides b(i) + t * e(i).",
                TermsTest::programsAtTimes);
        CHECK.sentence("Terms", "V(t) is the worth of the best points of the program at t", TermsTest::worthsAtCorners);
        CHECK.finish();
    }

    private static List<Numbers> somePrograms() {
        Random random = new Random(20261116);
        List<Numbers> all = new ArrayList<>();
        for (int reach : REACHES) {
            for (int k = 0; k < EACH; k++) {
                all.add(Numbers.some(random, reach));
            }
        }
        return all;
    }

    private static void variables() {
        Edges.inEverySize((n, m) -> {
            for (int j : Edges.around(0, n - 1)) {
                CHECK.due(n + " variables, " + m + " rows: x(" + j + ")", Edges.isIn(j, 0, n - 1)
                        ? Edges.ANSWERS : Edges.INDEX, Edges.answering(() -> Programs.zeros(n, m).point(j, 0)));
            }
        });
    }

    private static void rows() {
        Edges.inEverySize((n, m) -> {
            for (int i : Edges.around(0, m - 1)) {
                CHECK.due(n + " variables, " + m + " rows: row " + i, Edges.isIn(i, 0, m - 1)
                        ? Edges.ANSWERS : Edges.INDEX, Edges.answering(() -> Programs.zeros(n, m).tight(i)));
            }
        });
    }

    /** Two rows say what two variables are, so that the third row says what the third is. */
    private static void sums() {
        for (int turn = 0; turn < 9; turn++) {
            for (int p : new int[] {-9, -2, 0, 3, 9}) {
                for (int q : new int[] {-9, -1, 0, 4, 9}) {
                    Numbers sum = new Numbers(3, 3);
                    int[] row = {turn % 3, (turn + 1) % 3, (turn + 2) % 3};
                    int[] variable = {turn / 3, (turn / 3 + 1) % 3, (turn / 3 + 2) % 3};
                    pin(sum, row[0], variable[0], 2);
                    pin(sum, row[1], variable[1], 5);
                    pin(sum, row[2], variable[2], 50);
                    sum.a[row[2]][variable[0]] = p;
                    sum.a[row[2]][variable[1]] = q;
                    sum.a[row[2]][variable[2]] = 7;
                    Rational third = Rational.of(50 - 2 * p - 5 * q, 7);
                    String due = third.compareTo(Rational.ZERO) < 0 ? Edges.STATE : third.toString();
                    CHECK.due(sum + ": x(" + variable[2] + ")", due, () -> Ask.range(sum.make(), variable[2], true));
                }
            }
        }
    }

    private static void pin(Numbers numbers, int i, int j, int right) {
        numbers.a[i][j] = 1;
        numbers.senses[i] = 1;
        numbers.b[i] = right;
    }

    private static Rational[] bestPoint(RationalProgram x, int n) {
        Rational[] point = new Rational[n];
        for (int j = 0; j < n; j++) {
            point[j] = Rational.of(x.point(j, 0), x.point(j, 1));
        }
        return point;
    }

    private static Rational sum(int[] factors, Rational[] point) {
        Rational sum = Rational.ZERO;
        for (int j = 0; j < point.length; j++) {
            sum = sum.plus(Rational.of(factors[j]).times(point[j]));
        }
        return sum;
    }

    private static boolean holds(Numbers p, int i, Rational[] point) {
        int order = sum(p.a[i], point).compareTo(Rational.of(p.b[i]));
        return p.senses[i] == 0 ? order <= 0 : p.senses[i] == 1 ? order == 0 : order >= 0;
    }

    private static boolean allHold(Numbers p, Rational[] point) {
        for (int i = 0; i < p.m; i++) {
            if (!holds(p, i, point)) {
                return false;
            }
        }
        return true;
    }

    private static void bestPointsAreFeasible() {
        for (Numbers p : PROGRAMS) {
            RationalProgram x = p.make();
            if (x.solve() != RationalProgram.OPTIMAL) {
                continue;
            }
            Rational[] point = bestPoint(x, p.n);
            for (int j = 0; j < p.n; j++) {
                Rational coordinate = point[j];
                CHECK.due(p + ": x(" + j + ") is from 0 on", true, () -> coordinate.compareTo(Rational.ZERO) >= 0);
            }
            CHECK.due(p + ": all rows hold", true, () -> allHold(p, point));
        }
    }

    private static void worths() {
        for (Numbers p : PROGRAMS) {
            RationalProgram x = p.make();
            if (x.solve() == RationalProgram.OPTIMAL) {
                CHECK.due(p + ": value", sum(p.c, bestPoint(x, p.n)), () -> Ask.value(x));
            }
        }
    }

    /** All feasible points of small whole numbers. */
    private static List<Rational[]> wholePoints(Numbers p) {
        List<Rational[]> found = new ArrayList<>();
        int count = 1;
        for (int j = 0; j < p.n; j++) {
            count *= FARTHEST + 1;
        }
        for (int place = 0; place < count; place++) {
            Rational[] point = new Rational[p.n];
            int rest = place;
            for (int j = 0; j < p.n; j++) {
                point[j] = Rational.of(rest % (FARTHEST + 1));
                rest /= FARTHEST + 1;
            }
            if (allHold(p, point)) {
                found.add(point);
            }
        }
        return found;
    }

    private static void feasiblePoints() {
        for (Numbers p : PROGRAMS) {
            if (!wholePoints(p).isEmpty()) {
                CHECK.due(p + ": has a feasible point", false,
                        () -> p.make().solve() == RationalProgram.INFEASIBLE);
            }
        }
    }

    /** The program with one row more: that the worth is at least so much. */
    private static Numbers demanding(Numbers p, int worth) {
        Numbers more = p.withRows(p.m + 1);
        more.a[p.m] = p.c.clone();
        more.senses[p.m] = 2;
        more.b[p.m] = worth;
        return more;
    }

    private static void demandedWorths() {
        for (Numbers p : PROGRAMS) {
            RationalProgram x = p.make();
            if (p.m == 3 || x.solve() == RationalProgram.INFEASIBLE) {
                continue;
            }
            if (x.solve() == RationalProgram.UNBOUNDED) {
                CHECK.due(p + ": a worth of 50 can be had", RationalProgram.UNBOUNDED,
                        () -> demanding(p, MOST_RIGHT).make().solve());
                continue;
            }
            long below = Math.floorDiv(x.value(0), x.value(1));
            if (Math.abs(below) < MOST_RIGHT) {
                CHECK.due(p + ": a worth of " + below + " can be had", RationalProgram.OPTIMAL,
                        () -> demanding(p, (int) below).make().solve());
                CHECK.due(p + ": a worth of " + (below + 1) + " can't be had", RationalProgram.INFEASIBLE,
                        () -> demanding(p, (int) below + 1).make().solve());
            }
        }
    }

    /** A point of whole numbers is not better, and of those as good the answered one has the least x(0), and so on. */
    private static void noPointIsBetter() {
        for (Numbers p : PROGRAMS) {
            RationalProgram x = p.make();
            if (x.solve() != RationalProgram.OPTIMAL) {
                continue;
            }
            Rational value = Rational.of(x.value(0), x.value(1));
            Rational[] best = bestPoint(x, p.n);
            for (Rational[] point : wholePoints(p)) {
                int order = sum(p.c, point).compareTo(value);
                CHECK.due(p + ": " + List.of(point) + " is not better", true, () -> order <= 0);
                if (order == 0) {
                    CHECK.due(p + ": " + List.of(point) + " does not come before", true,
                            () -> compare(best, point) <= 0);
                    sharpIn(p, x, point);
                }
            }
        }
    }

    private static void sharpIn(Numbers p, RationalProgram x, Rational[] best) {
        for (int i = 0; i < p.m; i++) {
            if (sum(p.a[i], best).compareTo(Rational.of(p.b[i])) != 0) {
                int row = i;
                CHECK.due(p + ": row " + i + " is loose in " + List.of(best), false, () -> x.tight(row));
            }
        }
    }

    private static int compare(Rational[] point, Rational[] other) {
        for (int j = 0; j < point.length; j++) {
            if (point[j].compareTo(other[j]) != 0) {
                return point[j].compareTo(other[j]);
            }
        }
        return 0;
    }

    private static void fractions() {
        for (Numbers p : PROGRAMS) {
            RationalProgram x = p.make();
            told(p + ": value", what -> x.value(what));
            for (int j = 0; j < p.n; j++) {
                int at = j;
                told(p + ": x(" + j + ")", what -> x.point(at, what));
                told(p + ": least x(" + j + ")", what -> x.range(at, false, what));
                told(p + ": greatest x(" + j + ")", what -> x.range(at, true, what));
            }
            int count = x.corners();
            for (int k = 0; k < count; k++) {
                int at = k;
                told(p + ": t of corner " + k, what -> x.corner(at, what));
                told(p + ": V of corner " + k, what -> x.corner(at, what + 2));
            }
        }
    }

    /** One of the two numbers of a fraction. */
    private interface Part {
        long of(int what);
    }

    /** A fraction that is refused is refused above and below. */
    private static void told(String name, Part part) {
        String above = Check.told(() -> part.of(0));
        if (above.startsWith("throws.")) {
            CHECK.due(name + ", below", above, () -> part.of(1));
            return;
        }
        CHECK.due(name + ", above and below", Rational.of(part.of(0), part.of(1)), () -> above + "/" + part.of(1));
    }

    /** Each corner's t and V. */
    private static List<Rational[]> cornersOf(RationalProgram x) {
        List<Rational[]> all = new ArrayList<>();
        int count = x.corners();
        for (int k = 0; k < count; k++) {
            all.add(new Rational[] {Rational.of(x.corner(k, 0), x.corner(k, 1)),
                Rational.of(x.corner(k, 2), x.corner(k, 3))});
        }
        return all;
    }

    /** V(t) by the line between two corners, or null where there is none. */
    private static Rational worthAt(List<Rational[]> corners, Rational t) {
        Rational[] last = null;
        for (Rational[] corner : corners) {
            int order = t.compareTo(corner[0]);
            if (order == 0) {
                return corner[1];
            }
            if (order < 0) {
                return last == null ? null : onLine(last, corner, t);
            }
            last = corner;
        }
        return null;
    }

    private static Rational onLine(Rational[] from, Rational[] to, Rational t) {
        Rational slope = to[1].minus(from[1]).over(to[0].minus(from[0]));
        return from[1].plus(slope.times(t.minus(from[0])));
    }

    /** The program at t with all right sides times the number below t, to keep them whole; null if they are too far. */
    private static Numbers at(Numbers p, Rational t) {
        Numbers there = p.withRows(p.m);
        for (int i = 0; i < p.m; i++) {
            long right = p.b[i] * t.part(1) + p.e[i] * t.part(0);
            if (Math.abs(right) > MOST_RIGHT) {
                return null;
            }
            there.b[i] = (int) right;
            there.e[i] = 0;
        }
        return there;
    }

    private static void programsAtTimes() {
        for (Numbers p : PROGRAMS) {
            List<Rational[]> corners = cornersOf(p.make());
            for (int below = 1; below <= MOST_PARTS; below++) {
                for (int above = 0; above <= below; above++) {
                    compareAt(p, corners, Rational.of(above, below));
                }
            }
        }
    }

    private static void worthsAtCorners() {
        for (Numbers p : PROGRAMS) {
            List<Rational[]> corners = cornersOf(p.make());
            for (Rational[] corner : corners) {
                compareAt(p, corners, corner[0]);
            }
        }
    }

    private static void compareAt(Numbers p, List<Rational[]> corners, Rational t) {
        Numbers there = at(p, t);
        if (there == null) {
            return;
        }
        Rational worth = worthAt(corners, t);
        String due = worth == null ? Edges.STATE : worth.times(Rational.of(t.part(1))).toString();
        CHECK.due(p + " at " + t + ", times " + t.part(1), due, () -> Ask.value(there.make()));
    }
}
