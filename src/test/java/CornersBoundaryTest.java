/** Promises 13 and 14 and what the Terms say of drift, by sentences: no corner, one, the most; t at its ends. */
public final class CornersBoundaryTest {
    private static final Check CHECK = new Check();

    private CornersBoundaryTest() {
    }

    public static void main(String[] args) {
        CHECK.sentence("Promise 13", "How many corners V has", CornersBoundaryTest::cornersAnswers);
        CHECK.sentence("Promise 13", "0 when no program at a t has best points.", CornersBoundaryTest::noCorners);
        CHECK.sentence("Terms", "there may be such only for some t, and they lie between the least, t0, and"
                + " the greatest, t1, of these",
                CornersBoundaryTest::onlyForSomeTimes);
        CHECK.sentence("Terms", "t0 = t1 is one corner.", CornersBoundaryTest::oneCorner);
        CHECK.sentence("Terms", "CORNERS are t0, t1, and each t between where V bends",
                CornersBoundaryTest::bendsAtTheEnds);
        CHECK.sentence("Terms", "where no line has the values of V nearby on both sides",
                CornersBoundaryTest::bendsOnly);
        CHECK.sentence("Terms", "they are counted 0, 1, .. by rising t", CornersBoundaryTest::byRisingTime);
        CHECK.sentence("Promise 14", "Corner k: its t (what 0 above, 1 below) and V there (2 above, 3 below).",
                CornersBoundaryTest::cornerAnswers);
        CHECK.sentence("Promise 14", "IndexOutOfBoundsException when there is no corner k;"
                + " IllegalArgumentException when what is not 0 .. 3.",
                CornersBoundaryTest::cornerRefuses);
        CHECK.finish();
    }

    /** One variable of worth 1 under rows that say: it is at most a number and a drift. */
    private static RationalProgram under(int... rightsAndDrifts) {
        RationalProgram x = Ask.wanting(rightsAndDrifts.length / 2, 1);
        for (int i = 0; i < rightsAndDrifts.length / 2; i++) {
            Ask.setRow(x, i, 0, rightsAndDrifts[2 * i], 1);
            x.drift(i, rightsAndDrifts[2 * i + 1]);
        }
        return x;
    }

    private static void cornersAnswers() {
        CHECK.due("a new object", 2, () -> new RationalProgram().corners());
        Edges.inEverySize((n, m) -> {
            String size = n + " variables, " + m + " rows: ";
            CHECK.due(size + "right after begin", 2, () -> Programs.zeros(n, m).corners());
            CHECK.due(size + "where they are right after begin", "0/1:0/1 1/1:0/1",
                    () -> Ask.corners(Programs.zeros(n, m)));
        });
        CHECK.due("no row", 2, () -> Ask.wanting(0, -9, 0, -1, -9).corners());
        CHECK.due("all there, the most", 11, () -> Programs.mostCorners().corners());
        CHECK.due("asked twice", 11, () -> {
            RationalProgram x = Programs.mostCorners();
            x.corners();
            return x.corners();
        });
    }

    private static void noCorners() {
        Edges.inEverySize((n, m) -> {
            String size = n + " variables, " + m + " rows: ";
            CHECK.due(size + "UNBOUNDED", 0, () -> Programs.unbounded(n, m).corners());
            if (m > 0) {
                CHECK.due(size + "INFEASIBLE", 0, () -> Programs.infeasible(n, m).corners());
            }
        });
        CHECK.due("no row, one variable wanted", 0, () -> Ask.wanting(0, -9, 0, 1, -9).corners());
        CHECK.due("feasible only after t = 1", 0, () -> under(-10, 9).corners());
        CHECK.due("feasible only before t = 0", 0, () -> under(-1, -9).corners());
        CHECK.due("each row at a t of its own", 0, () -> under(-5, 9, 4, -9).corners());
        RationalProgram x = Ask.wanting(1, 0, 1);
        Ask.setRow(x, 0, 0, -1, 1, 0);
        x.drift(0, 2);
        CHECK.due("first INFEASIBLE, then UNBOUNDED", 0, x::corners);
    }

    private static void onlyForSomeTimes() {
        CHECK.due("from 5/9 on", "5/9:0/1 1/1:4/1", () -> Ask.corners(under(-5, 9)));
        CHECK.due("the program at 0 is INFEASIBLE", 1, () -> under(-5, 9).solve());
        CHECK.due("up to 4/9", "0/1:4/1 4/9:0/1", () -> Ask.corners(under(4, -9)));
        CHECK.due("from 4/9 to 5/9", "4/9:0/1 1/2:1/2 5/9:0/1", () -> Ask.corners(under(-4, 9, 5, -9)));
        CHECK.due("from 1/9 on, a hair after 0", "1/9:0/1 1/1:8/1", () -> Ask.corners(under(-1, 9)));
        CHECK.due("up to 8/9, a hair before 1", "0/1:8/1 8/9:0/1", () -> Ask.corners(under(8, -9)));
    }

    private static void oneCorner() {
        CHECK.due("at t = 0", "0/1:0/1", () -> Ask.corners(under(0, -9)));
        CHECK.due("at t = 1", "1/1:0/1", () -> Ask.corners(under(-9, 9)));
        CHECK.due("between", "1/2:0/1", () -> Ask.corners(under(-1, 2, 1, -2)));
        CHECK.due("between, all of them", "5/9:0/1", () -> Ask.corners(under(-5, 9, 5, -9, 0, 0)));
        RationalProgram x = Ask.wanting(2, -9);
        Ask.setRow(x, 0, 1, 50, 1);
        Ask.setRow(x, 1, 1, 41, 1);
        x.drift(1, 9);
        CHECK.due("two right sides meet at t = 1", "1/1:-450/1", () -> Ask.corners(x));
        x.row(1, 1, 50);
        CHECK.due("two right sides meet at t = 0", "0/1:-450/1", () -> Ask.corners(x));
        x.row(1, 1, 40);
        CHECK.due("they would meet after 1", "", () -> Ask.corners(x));
    }

    private static void bendsAtTheEnds() {
        CHECK.due("lines that cross at 0", "0/1:2/1 1/1:3/1", () -> Ask.corners(under(2, 4, 2, 1)));
        CHECK.due("lines that cross at 1", "0/1:1/1 1/1:5/1", () -> Ask.corners(under(4, 1, 1, 4)));
        CHECK.due("lines that would cross before 0", "0/1:1/1 1/1:2/1", () -> Ask.corners(under(2, 9, 1, 1)));
        CHECK.due("lines that would cross after 1", "0/1:1/1 1/1:10/1", () -> Ask.corners(under(10, 1, 1, 9)));
        CHECK.due("lines that cross a hair after 0", "0/1:0/1 1/18:1/2 1/9:0/1",
                () -> Ask.corners(under(0, 9, 1, -9)));
        CHECK.due("lines that cross a hair before 1", "8/9:0/1 17/18:1/2 1/1:0/1",
                () -> Ask.corners(under(-8, 9, 9, -9)));
    }

    private static void bendsOnly() {
        CHECK.due("the same line twice", "0/1:5/1 1/1:6/1", () -> Ask.corners(under(5, 1, 5, 1)));
        CHECK.due("three lines through one point", "0/1:1/1 1/2:2/1 1/1:1/1",
                () -> Ask.corners(under(1, 2, 3, -2, 2, 0)));
        CHECK.due("a line that only touches from above", "0/1:1/1 1/2:2/1 1/1:2/1",
                () -> Ask.corners(under(1, 2, 2, 0, 3, -1)));
        CHECK.due("two bends", "0/1:0/1 1/3:3/1 2/3:3/1 1/1:0/1", () -> Ask.corners(under(0, 9, 3, 0, 9, -9)));
        RationalProgram x = Ask.wanting(3, 1, 1);
        Ask.setRow(x, 0, 0, 1, 1, 1);
        Ask.setRow(x, 1, 0, 2, 1, 0);
        Ask.setRow(x, 2, 0, 9, 0, 1);
        x.drift(0, 3);
        CHECK.due("the best point turns, V does not", "0/1:1/1 1/1:4/1", () -> Ask.corners(x));
        CHECK.due("what drifts has no part in the worth", "0/1:0/1 1/1:0/1", () -> {
            x.want(0, 0);
            x.want(1, 0);
            return Ask.corners(x);
        });
    }

    private static void byRisingTime() {
        CHECK.due("all there, the most", "0/1:-169/1 44/135:-122/135 16/39:-4/39 3/7:0/1 27/55:12/55 9/17:3/17"
                + " 4/7:1/14 29/50:1/25 25/41:-9/41 5/7:-18/7 1/1:-57/5", () -> Ask.corners(Programs.mostCorners()));
        CHECK.due("all there, the greatest below t", "0/1:25931/774 1189/2898:8969/322",
                () -> Ask.corners(Programs.finestTime()));
        CHECK.due("all there, the greatest worth", "0/1:407250/2311 1/1:404109/2311",
                () -> Ask.corners(Programs.greatestWorth()));
        CHECK.due("all there, the least worth", "0/1:-407250/2311 1/1:-480555/2311",
                () -> Ask.corners(Programs.leastWorth()));
    }

    private static void cornerAnswers() {
        RationalProgram x = under(-8, 9, 9, -9);
        long[][] due = {{8, 9, 0, 1}, {17, 18, 1, 2}, {1, 1, 0, 1}};
        for (int place = 0; place < 12; place++) {
            int k = place / 4;
            int what = place % 4;
            CHECK.due("corner(" + k + ", " + what + ")", due[k][what], () -> x.corner(k, what));
        }
        long[][] first = {{0, 1, 0, 1}, {1, 1, 0, 1}};
        Edges.inEverySize((n, m) -> {
            for (int place = 0; place < 8; place++) {
                int k = place / 4;
                int what = place % 4;
                CHECK.due(n + " variables, " + m + " rows, right after begin: corner(" + k + ", " + what + ")",
                        first[k][what], () -> Programs.zeros(n, m).corner(k, what));
            }
        });
    }

    private static void cornerRefuses() {
        RationalProgram[] programs = {Programs.infeasible(), Programs.unbounded(), under(0, -9), Programs.optimal(),
            under(0, 9, 3, 0), Programs.mostCorners(), new RationalProgram(), Programs.zeros(4, 3)};
        int[] counts = {0, 0, 1, 2, 3, 11, 2, 2};
        for (int p = 0; p < programs.length; p++) {
            RationalProgram x = programs[p];
            for (int k : Edges.around(0, counts[p] - 1)) {
                for (int what : Edges.around(0, 3)) {
                    String due = !Edges.isIn(k, 0, counts[p] - 1) ? Edges.INDEX
                            : !Edges.isIn(what, 0, 3) ? Edges.ARGUMENT : Edges.ANSWERS;
                    CHECK.due(counts[p] + " corners: corner(" + k + ", " + what + ")", due,
                            Edges.answering(() -> x.corner(k, what)));
                }
            }
        }
    }
}
