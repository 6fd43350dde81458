import java.util.Random;

/**
 * Promises 7 to 12, sentence by sentence: what is answered right after begin, without rows, and where all variables and
 * rows are there; what is refused, and which exception comes first.
 */
public final class AnswersBoundaryTest {
    private static final Check CHECK = new Check();

    private AnswersBoundaryTest() {
    }

    public static void main(String[] args) {
        CHECK.sentence("Promise 7", "OPTIMAL, INFEASIBLE or UNBOUNDED.", AnswersBoundaryTest::solveAnswers);
        CHECK.sentence("Terms", "UNBOUNDED if there are feasible points of any worth, however great; else OPTIMAL",
                AnswersBoundaryTest::solveAtTheEdge);
        CHECK.sentence("Promise 8", "The worth of the best points.", AnswersBoundaryTest::valueAnswers);
        CHECK.sentence("Promise 8", "IllegalStateException when the program is not OPTIMAL;"
                + " IllegalArgumentException when what is not 0 or 1.",
                AnswersBoundaryTest::valueRefuses);
        CHECK.sentence("Promise 9", "x(j) of that best point", AnswersBoundaryTest::pointAnswers);
        CHECK.sentence("Promise 9", "which has the least x(0), of those that have it the one with the least x(1),"
                + " and so on.",
                AnswersBoundaryTest::pointTakesTheLeast);
        CHECK.sentence("Promise 9", "IllegalStateException when the program is not OPTIMAL;"
                + " IndexOutOfBoundsException when there is no variable j;"
                + " IllegalArgumentException when what is not 0 or 1.",
                AnswersBoundaryTest::pointRefuses);
        CHECK.sentence("Promise 10", "The least, or greatest if high, x(j) of all feasible points.",
                AnswersBoundaryTest::rangeAnswers);
        CHECK.sentence("Promise 10", "UnsupportedOperationException when there is no greatest.",
                AnswersBoundaryTest::rangeHasNoGreatest);
        CHECK.sentence("Promise 10", "IllegalStateException when the program is INFEASIBLE;"
                + " IndexOutOfBoundsException when there is no variable j;"
                + " IllegalArgumentException when what is not 0 or 1;"
                + " UnsupportedOperationException when there is no greatest.",
                AnswersBoundaryTest::rangeRefuses);
        CHECK.sentence("Promise 11", "Whether the sum of row i is its right side in all best points.",
                AnswersBoundaryTest::tightAnswers);
        CHECK.sentence("Promise 11", "Whether the sum of row i is its right side in all best points.",
                AnswersBoundaryTest::tightInAllBestPoints);
        CHECK.sentence("Promise 11", "IllegalStateException when the program is not OPTIMAL;"
                + " IndexOutOfBoundsException when there is no row i.",
                AnswersBoundaryTest::tightRefuses);
        CHECK.sentence("Promise 12", "Of an INFEASIBLE program the rows that can't be together",
                AnswersBoundaryTest::conflictCantBeTogether);
        CHECK.sentence("Promise 12", "the sum of 2^i over the rows that stay.",
                AnswersBoundaryTest::conflictAnswers);
        CHECK.sentence("Promise 12", "all rows but those that, by rising numbers, are left out, each if what is"
                + " left without it (and without those left out before) is infeasible",
                AnswersBoundaryTest::conflictByRisingNumbers);
        CHECK.sentence("Promise 12", "IllegalStateException when the program is not INFEASIBLE.",
                AnswersBoundaryTest::conflictRefuses);
        CHECK.sentence("Not promised", "Nothing is promised beyond the answers and state changes described above",
                AnswersBoundaryTest::questionsChangeNothing);
        CHECK.finish();
    }

    /** A question to a program. */
    private interface Question {
        Object to(RationalProgram x);
    }

    private static String size(int n, int m) {
        return n + " variables, " + m + " rows: ";
    }

    /** Asks a program in each of the three states; INFEASIBLE are only those with rows, and they refuse all of it. */
    private static void inEachState(int n, int m, String call, String optimal, String unbounded, Question question) {
        CHECK.due(size(n, m) + call, optimal, Edges.answering(() -> question.to(Programs.zeros(n, m))));
        CHECK.due(size(n, m) + call + ", UNBOUNDED", unbounded,
                Edges.answering(() -> question.to(Programs.unbounded(n, m))));
        if (m > 0) {
            CHECK.due(size(n, m) + call + ", INFEASIBLE", Edges.STATE,
                    Edges.answering(() -> question.to(Programs.infeasible(n, m))));
        }
    }

    private static void solveAnswers() {
        CHECK.due("a new object", 0, () -> new RationalProgram().solve());
        Edges.inEverySize((n, m) -> {
            CHECK.due(size(n, m) + "right after begin", 0, () -> Programs.zeros(n, m).solve());
            CHECK.due(size(n, m) + "rows of zeros, the last variable wanted", 2,
                    () -> Programs.unbounded(n, m).solve());
            if (m > 0) {
                CHECK.due(size(n, m) + "the last row can't hold", 1, () -> Programs.infeasible(n, m).solve());
            }
        });
        for (int v = -9; v <= 9; v++) {
            RationalProgram x = Ask.wanting(0, 0, -9, v, -1);
            CHECK.due("no row, c(2) = " + v, v > 0 ? 2 : 0, x::solve);
        }
        CHECK.due("all there, OPTIMAL", 0, () -> Programs.greatestWorth().solve());
        CHECK.due("all there, INFEASIBLE by a hair", 1, () -> Programs.fullInfeasible().solve());
        CHECK.due("all there, UNBOUNDED", 2, () -> Programs.fullUnbounded().solve());
    }

    private static void solveAtTheEdge() {
        RationalProgram x = Ask.wanting(2, 9, -9);
        Ask.setRow(x, 0, 0, 50, 9, -9);
        CHECK.due("it grows without end along a way of worth 0", 0, x::solve);
        x.want(1, -8);
        CHECK.due("the way has a worth of 1", 2, x::solve);
        Ask.setRow(x, 1, 2, 50, 0, 0);
        CHECK.due("the way is there, but no point to go from", 1, x::solve);
        Ask.setRow(x, 1, 0, 50, 0, 1);
        CHECK.due("the way ends where x(1) is 50", "100/1", () -> Ask.value(x));
    }

    private static void valueAnswers() {
        CHECK.due("a new object", "0/1", () -> Ask.value(new RationalProgram()));
        Edges.inEverySize((n, m) -> CHECK.due(size(n, m) + "right after begin", "0/1",
                () -> Ask.value(Programs.zeros(n, m))));
        CHECK.due("no row", "0/1", () -> Ask.value(Ask.wanting(0, -9, 0, -1, -9)));
        CHECK.due("all there, the greatest", "407250/2311", () -> Ask.value(Programs.greatestWorth()));
        CHECK.due("all there, the least", "-407250/2311", () -> Ask.value(Programs.leastWorth()));
        CHECK.due("all there, the greatest below", "215552/2907", () -> Ask.value(Programs.finestWorth()));
    }

    private static void valueRefuses() {
        Edges.inEverySize((n, m) -> {
            for (int what : Edges.around(0, 1)) {
                String due = Edges.isIn(what, 0, 1) ? Edges.ANSWERS : Edges.ARGUMENT;
                inEachState(n, m, "value(" + what + ")", due, Edges.STATE, x -> x.value(what));
            }
        });
    }

    private static void pointAnswers() {
        CHECK.due("a new object", "0/1", () -> Ask.point(new RationalProgram(), 1));
        Edges.inEverySize((n, m) -> CHECK.due(size(n, m) + "right after begin",
                "0/1 0/1 0/1 0/1".substring(0, 4 * n - 1), () -> Ask.point(Programs.zeros(n, m), n)));
        CHECK.due("no row", "0/1 0/1 0/1 0/1", () -> Ask.point(Ask.wanting(0, -9, 0, -1, -9), 4));
        CHECK.due("all there, the greatest worth", "15350/2311 15400/2311 0/1 14500/2311",
                () -> Ask.point(Programs.greatestWorth(), 4));
        CHECK.due("all there, the least worth", "15400/2311 14500/2311 15350/2311 0/1",
                () -> Ask.point(Programs.leastWorth(), 4));
        CHECK.due("all there, the finest worth", "1063/323 0/1 389/171 1215/323",
                () -> Ask.point(Programs.finestWorth(), 4));
    }

    private static void pointTakesTheLeast() {
        for (int n = 1; n <= 4; n++) {
            int variables = n;
            RationalProgram x = Ask.wanting(1, new int[n]);
            for (int j = 0; j < n; j++) {
                x.coefficient(0, j, 1);
            }
            x.row(0, 1, 7);
            CHECK.due("all of a sum of 7 is left to the last of " + n,
                    "0/1 0/1 0/1 7/1".substring(4 * (4 - n)), () -> Ask.point(x, variables));
        }
        for (int n = 1; n <= 4; n++) {
            for (int least = 0; least < 2; least++) {
                int variables = n;
                RationalProgram x = Ask.wanting(2, new int[n]);
                x.coefficient(least, n - 1, 1);
                x.row(least, 2, 2);
                x.coefficient(1 - least, n - 1, 1);
                x.row(1 - least, 0, 5);
                CHECK.due("the last of " + n + " is from 2 to 5, row " + least + " says from 2",
                        "0/1 0/1 0/1 2/1".substring(4 * (4 - n)), () -> Ask.point(x, variables));
            }
        }
        RationalProgram x = Ask.wanting(3, 1, 1, 1, 1);
        Ask.setRow(x, 0, 0, 9, 1, 1, 1, 1);
        Ask.setRow(x, 1, 0, 4, 0, 0, 0, 1);
        Ask.setRow(x, 2, 0, 6, 0, 0, 1, 1);
        CHECK.due("the last two can't take all", "0/1 3/1 2/1 4/1", () -> Ask.point(x, 4));
        x.row(2, 1, 0);
        CHECK.due("the last two can't take any", "0/1 9/1 0/1 0/1", () -> Ask.point(x, 4));
        x.row(1, 0, 50);
        Ask.setRow(x, 2, 0, 2, 0, 1, 1, 1);
        CHECK.due("x(0) must take what the others can't", "7/1 0/1 0/1 2/1", () -> Ask.point(x, 4));
        RationalProgram endless = Ask.wanting(2, 2, -2, 0);
        Ask.setRow(endless, 0, 0, 3, 1, -1, 0);
        Ask.setRow(endless, 1, 2, 5, 1, 0, 1);
        CHECK.due("the best points go on without end", "3/1 0/1 2/1", () -> Ask.point(endless, 3));
    }

    private static void pointRefuses() {
        Edges.inEverySize((n, m) -> {
            for (int j : Edges.around(0, n - 1)) {
                for (int what : Edges.around(0, 1)) {
                    String due = !Edges.isIn(j, 0, n - 1) ? Edges.INDEX
                            : !Edges.isIn(what, 0, 1) ? Edges.ARGUMENT : Edges.ANSWERS;
                    inEachState(n, m, "point(" + j + ", " + what + ")", due, Edges.STATE, x -> x.point(j, what));
                }
            }
        });
    }

    private static void rangeAnswers() {
        CHECK.due("a new object", "0/1", () -> Ask.range(new RationalProgram(), 0, false));
        Edges.inEverySize((n, m) -> {
            for (int j = 0; j < n; j++) {
                int at = j;
                CHECK.due(size(n, m) + "right after begin, least x(" + j + ")", "0/1",
                        () -> Ask.range(Programs.zeros(n, m), at, false));
                CHECK.due(size(n, m) + "UNBOUNDED, least x(" + j + ")", "0/1",
                        () -> Ask.range(Programs.unbounded(n, m), at, false));
            }
        });
        RationalProgram x = Programs.farthest();
        CHECK.due("all there, least x(0)", "5900/193", () -> Ask.range(x, 0, false));
        CHECK.due("all there, greatest x(0)", "16100/67", () -> Ask.range(x, 0, true));
        CHECK.due("all there, least x(3)", "0/1", () -> Ask.range(x, 3, false));
        CHECK.due("all there, greatest x(3)", "1500/193", () -> Ask.range(x, 3, true));
        RationalProgram one = Ask.wanting(1, -9);
        Ask.setRow(one, 0, 0, 0, 9);
        CHECK.due("nothing but 0, greatest", "0/1", () -> Ask.range(one, 0, true));
        one.row(0, 1, 50);
        CHECK.due("nothing but 50/9, least", "50/9", () -> Ask.range(one, 0, false));
        CHECK.due("nothing but 50/9, greatest", "50/9", () -> Ask.range(one, 0, true));
        one.row(0, 0, 50);
        CHECK.due("not of the best points alone", "50/9", () -> Ask.range(one, 0, true));
    }

    private static void rangeHasNoGreatest() {
        CHECK.due("a new object", Edges.NO_WAY, () -> new RationalProgram().range(0, true, 0));
        Edges.inEverySize((n, m) -> {
            for (int j = 0; j < n; j++) {
                int at = j;
                CHECK.due(size(n, m) + "right after begin, greatest x(" + j + ")", Edges.NO_WAY,
                        () -> Programs.zeros(n, m).range(at, true, 1));
            }
        });
        RationalProgram x = Ask.wanting(1, 1, 0);
        Ask.setRow(x, 0, 0, 50, 1, -9);
        CHECK.due("x(0) grows only along with x(1)", Edges.NO_WAY, () -> x.range(0, true, 0));
        x.coefficient(0, 1, 0);
        CHECK.due("x(0) has a greatest, though x(1) has none", "50/1", () -> Ask.range(x, 0, true));
        CHECK.due("x(1) has none, though the program is OPTIMAL", Edges.NO_WAY, () -> x.range(1, true, 0));
        CHECK.due("of x(1) there is a least", "0/1", () -> Ask.range(x, 1, false));
        x.want(1, 1);
        CHECK.due("x(0) has a greatest, though the program is UNBOUNDED", "50/1", () -> Ask.range(x, 0, true));
        x.coefficient(0, 1, 9);
        CHECK.due("x(1) has a greatest where its factor is above 0", "50/9", () -> Ask.range(x, 1, true));
    }

    private static void rangeRefuses() {
        Edges.inEverySize((n, m) -> {
            for (int j : Edges.around(0, n - 1)) {
                for (int what : Edges.around(0, 1)) {
                    rangeRefuses(n, m, j, what, false);
                    rangeRefuses(n, m, j, what, true);
                }
            }
        });
    }

    private static void rangeRefuses(int n, int m, int j, int what, boolean high) {
        String due = !Edges.isIn(j, 0, n - 1) ? Edges.INDEX : !Edges.isIn(what, 0, 1) ? Edges.ARGUMENT
                : high ? Edges.NO_WAY : Edges.ANSWERS;
        inEachState(n, m, "range(" + j + ", " + high + ", " + what + ")", due, due, x -> x.range(j, high, what));
    }

    private static void tightAnswers() {
        Edges.inEverySize((n, m) -> {
            for (int i = 0; i < m; i++) {
                int at = i;
                RationalProgram x = Programs.zeros(n, m);
                CHECK.due(size(n, m) + "right after begin, row " + i, true, () -> x.tight(at));
                x.row(i, 0, 1);
                CHECK.due(size(n, m) + "0 is at most 1, row " + i, false, () -> x.tight(at));
                x.row(i, 2, -1);
                CHECK.due(size(n, m) + "0 is at least -1, row " + i, false, () -> x.tight(at));
                x.row(i, 1, 0);
                CHECK.due(size(n, m) + "0 is 0, row " + i, true, () -> x.tight(at));
            }
        });
        for (int i = 0; i < 3; i++) {
            int at = i;
            CHECK.due("all there, row " + i, true, () -> Programs.greatestWorth().tight(at));
            CHECK.due("all there and some loose, row " + i, i > 0, () -> Numbers.full().make().tight(at));
        }
    }

    private static void tightInAllBestPoints() {
        RationalProgram x = Ask.wanting(3, 9, 9);
        Ask.setRow(x, 0, 0, 50, 9, 9);
        Ask.setRow(x, 1, 0, 50, 9, 0);
        Ask.setRow(x, 2, 2, 0, 1, 0);
        CHECK.due("in all of many", true, () -> x.tight(0));
        CHECK.due("at one end of them only", false, () -> x.tight(1));
        CHECK.due("at the other end only, where the answered point is", false, () -> x.tight(2));
        x.want(1, 8);
        CHECK.due("at the only one", true, () -> x.tight(1));
        x.row(1, 0, 49);
        CHECK.due("moved by a hair, still at the only one", true, () -> x.tight(1));
        CHECK.due("which is not at 0", false, () -> x.tight(2));
        RationalProgram endless = Ask.wanting(1, -1, 0);
        Ask.setRow(endless, 0, 2, 0, 0, 1);
        CHECK.due("at the start of the best points, not farther out", false, () -> endless.tight(0));
    }

    private static void tightRefuses() {
        Edges.inEverySize((n, m) -> {
            for (int i : Edges.around(0, m - 1)) {
                String due = Edges.isIn(i, 0, m - 1) ? Edges.ANSWERS : Edges.INDEX;
                inEachState(n, m, "tight(" + i + ")", due, Edges.STATE, x -> x.tight(i));
            }
        });
    }

    /** One row says that x(0) is at most 0 and another that it is at least 1; the rest always hold. */
    private static RationalProgram against(int m, int most, int least) {
        RationalProgram x = Ask.wanting(m, 0, 0);
        x.coefficient(most, 0, 1);
        Ask.setRow(x, least, 2, 1, 1, 0);
        return x;
    }

    /** The program with the rows of the mask; the others always hold. */
    private static Numbers onlyRows(Numbers p, int mask) {
        Numbers some = p.withRows(p.m);
        for (int i = 0; i < p.m; i++) {
            if ((mask >> i & 1) == 0) {
                some.a[i] = new int[p.n];
                some.senses[i] = 0;
                some.b[i] = 0;
            }
        }
        return some;
    }

    private static void conflictCantBeTogether() {
        Random random = new Random(20261116);
        for (int k = 0; k < 400; k++) {
            Numbers p = Numbers.some(random, 4);
            if (p.make().solve() != RationalProgram.INFEASIBLE) {
                continue;
            }
            int together = p.make().conflict();
            CHECK.due(p + ": the rows of " + together, RationalProgram.INFEASIBLE,
                    () -> onlyRows(p, together).make().solve());
            for (int left = together; left > 0; left &= left - 1) {
                int fewer = together & ~Integer.lowestOneBit(left);
                CHECK.due(p + ": the rows of " + fewer + " alone can't be together", false,
                        () -> onlyRows(p, fewer).make().solve() == RationalProgram.INFEASIBLE);
            }
        }
    }

    private static void conflictAnswers() {
        for (int m = 1; m <= 3; m++) {
            int rows = m;
            CHECK.due("the last of " + m + " rows alone", 1 << m - 1, () -> Programs.infeasible(4, rows).conflict());
        }
        CHECK.due("two of two", 3, () -> against(2, 1, 0).conflict());
        CHECK.due("rows 0 and 1 of three", 3, () -> against(3, 0, 1).conflict());
        CHECK.due("rows 0 and 2 of three", 5, () -> against(3, 2, 0).conflict());
        CHECK.due("rows 1 and 2 of three", 6, () -> against(3, 1, 2).conflict());
        RationalProgram x = Ask.wanting(3, 0, 0);
        Ask.setRow(x, 0, 0, 17, 9, 9);
        Ask.setRow(x, 1, 2, 1, 1, 0);
        Ask.setRow(x, 2, 2, 1, 0, 1);
        CHECK.due("all three, by a hair", 7, x::conflict);
        CHECK.due("all there, by a hair", 3, () -> Programs.fullInfeasible().conflict());
    }

    private static void conflictByRisingNumbers() {
        for (int mask = 1; mask < 8; mask++) {
            RationalProgram x = Programs.zeros(2, 3);
            for (int i = 0; i < 3; i++) {
                x.row(i, 2, mask >> i & 1);
            }
            CHECK.due("of several rows each impossible by itself (" + mask + ") the last stays",
                    Integer.highestOneBit(mask), x::conflict);
        }
        RationalProgram x = against(3, 1, 2);
        x.row(0, 2, 1);
        CHECK.due("0 by itself, 1 against 2", 6, x::conflict);
        RationalProgram y = against(3, 0, 2);
        y.row(1, 2, 1);
        CHECK.due("1 by itself, 0 against 2", 2, y::conflict);
        RationalProgram z = against(3, 0, 1);
        z.row(2, 2, 1);
        CHECK.due("2 by itself, 0 against 1", 4, z::conflict);
        RationalProgram twice = against(3, 0, 1);
        twice.coefficient(2, 0, 1);
        CHECK.due("0 and 2 both against 1", 6, twice::conflict);
        twice.drift(1, -9);
        CHECK.due("the same whatever drifts", 6, twice::conflict);
        CHECK.due("asked twice", 6, twice::conflict);
    }

    private static void conflictRefuses() {
        CHECK.due("a new object", Edges.STATE, () -> new RationalProgram().conflict());
        Edges.inEverySize((n, m) -> {
            CHECK.due(size(n, m) + "right after begin", Edges.STATE, () -> Programs.zeros(n, m).conflict());
            CHECK.due(size(n, m) + "UNBOUNDED", Edges.STATE, () -> Programs.unbounded(n, m).conflict());
        });
        CHECK.due("all there, OPTIMAL", Edges.STATE, () -> Programs.leastWorth().conflict());
        CHECK.due("all there, UNBOUNDED", Edges.STATE, () -> Programs.fullUnbounded().conflict());
        RationalProgram x = Ask.wanting(2, 0);
        Ask.setRow(x, 0, 0, 50, 9);
        Ask.setRow(x, 1, 2, 50, 9);
        CHECK.due("two rows that just go together", Edges.STATE, x::conflict);
    }

    private static void questionsChangeNothing() {
        Numbers infeasible = Numbers.full();
        infeasible.b[0] = -50;
        infeasible.senses[0] = 0;
        Numbers unbounded = Numbers.full();
        unbounded.c[0] = 9;
        CHECK.due("OPTIMAL", 0, () -> Numbers.full().make().solve());
        CHECK.due("INFEASIBLE", 1, () -> infeasible.make().solve());
        CHECK.due("UNBOUNDED", 2, () -> unbounded.make().solve());
        Numbers[] programs = {Numbers.full(), infeasible, unbounded, new Numbers(1, 0), new Numbers(2, 1)};
        Edges.Touch[] questions = {x -> x.solve(), x -> x.value(0), x -> x.value(2), x -> x.point(0, 1),
            x -> x.point(-1, 0), x -> x.point(0, -1), x -> x.range(0, false, 0), x -> x.range(0, true, 1),
            x -> x.range(4, true, 1), x -> x.range(0, true, 2), x -> x.tight(0), x -> x.tight(3), x -> x.conflict(),
            x -> x.corners(), x -> x.corner(0, 0), x -> x.corner(99, 0), x -> x.corner(0, 4)};
        for (Numbers before : programs) {
            String answers = Ask.everything(before.make(), before.n, before.m);
            for (int q = 0; q < questions.length; q++) {
                Edges.Touch question = questions[q];
                CHECK.due("the numbers after question " + q, before,
                        () -> Numbers.read(() -> Edges.touched(before, question)));
                CHECK.due("the answers after question " + q, answers,
                        () -> Ask.everything(Edges.touched(before, question), before.n, before.m));
            }
        }
    }
}
