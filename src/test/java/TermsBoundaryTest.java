/** What the Terms and "What it is" say of boundary cases, sentence by sentence. */
public final class TermsBoundaryTest {
    private static final Check CHECK = new Check();
    private static final int MOST_CALLS = 512;

    private TermsBoundaryTest() {
    }

    public static void main(String[] args) {
        CHECK.sentence("Terms", "the row HOLDS when its sum is at most (sense 0), is (1), or is at least (2) its RIGHT"
                + " SIDE b(i)",
                TermsBoundaryTest::rowsHold);
        CHECK.sentence("Terms", "which may be any fractions from 0 on", TermsBoundaryTest::variablesFromZero);
        CHECK.sentence("Terms", "zero is 0 and 1", TermsBoundaryTest::zeroFractions);
        CHECK.sentence("Terms", "the one below greater than 0", TermsBoundaryTest::fractionsBelowZero);
        CHECK.sentence("Terms", "two numbers without a common divisor but 1", TermsBoundaryTest::noCommonDivisor);
        CHECK.sentence("Terms", "Of several exceptions that a call names, the one named first is thrown.",
                TermsBoundaryTest::firstOfTheChanges);
        CHECK.sentence("Terms", "Of several exceptions that a call names, the one named first is thrown.",
                TermsBoundaryTest::firstOfTheAnswers);
        CHECK.sentence("What it is", "An object is used for at most 512 calls after it has been made",
                TermsBoundaryTest::lastCalls);
        CHECK.sentence("What it is", "An object is used for at most 512 calls after it has been made",
                TermsBoundaryTest::lastChanges);
        CHECK.finish();
    }

    private static void rowsHold() {
        for (int sense = 0; sense < 3; sense++) {
            for (int right : new int[] {-50, -1, 0, 1, 50}) {
                boolean holds = sense == 0 ? 0 <= right : sense == 1 ? 0 == right : 0 >= right;
                RationalProgram x = Ask.wanting(1, -1);
                x.row(0, sense, right);
                CHECK.due("a sum of 0, sense " + sense + ", right side " + right, holds ? 0 : 1, x::solve);
            }
            RationalProgram x = Ask.wanting(2, 1);
            Ask.setRow(x, 0, 1, 50, 9);
            Ask.setRow(x, 1, sense, 50, 9);
            CHECK.due("a sum of 50, sense " + sense + ", right side 50", 0, x::solve);
            x.row(1, sense, 49);
            CHECK.due("a sum of 50, sense " + sense + ", right side 49", sense == 2 ? 0 : 1, x::solve);
            x.row(0, 1, 49);
            x.row(1, sense, 50);
            CHECK.due("a sum of 49, sense " + sense + ", right side 50", sense == 0 ? 0 : 1, x::solve);
        }
    }

    private static void variablesFromZero() {
        RationalProgram x = Ask.wanting(1, -9);
        Ask.setRow(x, 0, 0, 0, 9);
        CHECK.due("0 may be", "0/1", () -> Ask.range(x, 0, true));
        x.row(0, 0, -1);
        CHECK.due("less than 0 may not be", 1, x::solve);
        x.row(0, 2, -50);
        CHECK.due("at least -50/9 is at least 0", "0/1", () -> Ask.range(x, 0, false));
        x.row(0, 2, 1);
        CHECK.due("1/9 may be", "1/9", () -> Ask.range(x, 0, false));
        x.row(0, 0, 1);
        CHECK.due("1/9 may be the greatest", "1/9", () -> Ask.range(x, 0, true));
    }

    private static void zeroFractions() {
        RationalProgram x = Ask.wanting(2, 9, -9);
        Ask.setRow(x, 0, 1, 0, 9, -7);
        Ask.setRow(x, 1, 0, 0, 0, 9);
        CHECK.due("value", "0/1", () -> Ask.value(x));
        CHECK.due("point", "0/1 0/1", () -> Ask.point(x, 2));
        CHECK.due("range, least", "0/1", () -> Ask.range(x, 0, false));
        CHECK.due("range, greatest", "0/1", () -> Ask.range(x, 1, true));
        CHECK.due("corner, t and V", "0/1:0/1 1/1:0/1", () -> Ask.corners(x));
    }

    private static void fractionsBelowZero() {
        RationalProgram x = Ask.wanting(1, -7);
        Ask.setRow(x, 0, 1, -50, -9);
        x.drift(0, 9);
        CHECK.due("value", "-350/9", () -> Ask.value(x));
        CHECK.due("point", "50/9", () -> Ask.point(x, 1));
        CHECK.due("range", "50/9", () -> Ask.range(x, 0, true));
        CHECK.due("V", "0/1:-350/9 1/1:-287/9", () -> Ask.corners(x));
    }

    private static void noCommonDivisor() {
        RationalProgram x = Ask.wanting(2, -6);
        Ask.setRow(x, 0, 1, 48, 9);
        Ask.setRow(x, 1, 0, 45, 9);
        x.drift(0, -9);
        CHECK.due("t and V", "1/3:-30/1 1/1:-26/1", () -> Ask.corners(x));
        x.row(1, 0, 50);
        CHECK.due("value, a whole number", "-32/1", () -> Ask.value(x));
        CHECK.due("point", "16/3", () -> Ask.point(x, 1));
        CHECK.due("range, least", "16/3", () -> Ask.range(x, 0, false));
        CHECK.due("range, greatest", "16/3", () -> Ask.range(x, 0, true));
        x.want(0, -4);
        CHECK.due("value, a fraction below 0", "-64/3", () -> Ask.value(x));
    }

    private static void refused(String due, RationalProgram x, String call, Edges.Touch touch) {
        CHECK.due(call, due, Edges.touching(x, touch));
    }

    private static void firstOfTheChanges() {
        RationalProgram x = Programs.optimal();
        refused(Edges.INDEX, x, "coefficient: no row, no such v", p -> p.coefficient(2, 0, 10));
        refused(Edges.INDEX, x, "coefficient: no variable, no such v", p -> p.coefficient(0, 2, 10));
        refused(Edges.INDEX, x, "coefficient: no row, no variable, no such v", p -> p.coefficient(-1, -1, -10));
        refused(Edges.INDEX, x, "row: no row, no sense", p -> p.row(2, 3, 50));
        refused(Edges.INDEX, x, "row: no row, no such right side", p -> p.row(2, 2, 51));
        refused(Edges.INDEX, x, "row: no row, no sense, no such right side", p -> p.row(-1, -1, -51));
        refused(Edges.INDEX, x, "want: no variable, no such v", p -> p.want(2, 10));
        refused(Edges.INDEX, x, "drift: no row, no such v", p -> p.drift(2, 10));
    }

    /** Each call breaks several rules; the ones that are named first are mended one after the other. */
    private static void firstOfTheAnswers() {
        for (RationalProgram x : new RationalProgram[] {Programs.infeasible(2, 1), Programs.unbounded(2, 1)}) {
            String state = x.solve() == RationalProgram.INFEASIBLE ? "INFEASIBLE: " : "UNBOUNDED: ";
            refused(Edges.STATE, x, state + "value: no what", p -> p.value(2));
            refused(Edges.STATE, x, state + "point: no variable, no what", p -> p.point(2, 2));
            refused(Edges.STATE, x, state + "point: no variable", p -> p.point(2, 0));
            refused(Edges.STATE, x, state + "point: no what", p -> p.point(0, 2));
            refused(Edges.STATE, x, state + "tight: no row", p -> p.tight(1));
            refused(Edges.INDEX, x, state + "corner: no corner, no what", p -> p.corner(0, 4));
        }
        RationalProgram none = Programs.infeasible(2, 1);
        refused(Edges.STATE, none, "INFEASIBLE: range: no variable, no what", p -> p.range(2, true, 2));
        refused(Edges.STATE, none, "INFEASIBLE: range: no variable", p -> p.range(2, true, 0));
        refused(Edges.STATE, none, "INFEASIBLE: range: no what", p -> p.range(0, true, 2));
        refused(Edges.STATE, none, "INFEASIBLE: range: no greatest", p -> p.range(0, true, 0));
        RationalProgram some = Programs.zeros(2, 1);
        refused(Edges.INDEX, some, "point: no variable, no what", p -> p.point(2, 2));
        refused(Edges.INDEX, some, "range: no variable, no what", p -> p.range(2, true, 2));
        refused(Edges.ARGUMENT, some, "range: no what, no greatest", p -> p.range(1, true, 2));
        refused(Edges.NO_WAY, some, "range: no greatest", p -> p.range(1, true, 1));
        refused(Edges.INDEX, some, "corner: no corner, no what", p -> p.corner(2, 4));
    }

    private static void lastCalls() {
        RationalProgram x = new RationalProgram();
        for (int call = 1; call <= MOST_CALLS; call++) {
            int what = call % 2;
            switch (call % 4) {
                case 0 -> CHECK.due("call " + call + ", value", 0, () -> x.value(0));
                case 1 -> CHECK.due("call " + call + ", corner", 1, () -> x.corner(1, what));
                case 2 -> CHECK.due("call " + call + ", refused", Edges.INDEX, () -> x.tight(0));
                default -> CHECK.due("call " + call + ", conflict", Edges.STATE, x::conflict);
            }
        }
    }

    private static void lastChanges() {
        RationalProgram x = new RationalProgram();
        x.begin(1, 1);
        x.coefficient(0, 0, 1);
        x.want(0, 1);
        for (int call = 4; call < MOST_CALLS; call += 2) {
            int right = call % 51;
            CHECK.due("call " + call + ", row", Edges.DONE, Edges.touching(x, p -> p.row(0, 0, right)));
            CHECK.due("call " + (call + 1) + ", value", right, () -> x.value(0));
        }
        CHECK.due("call " + MOST_CALLS + ", solve", 0, x::solve);
    }
}
