/** Promises 1 to 6: a new object, begin, coefficient, row, want and drift. */
public final class ChangesTest {
    private static final Check CHECK = new Check();

    private ChangesTest() {
    }

    public static void main(String[] args) {
        newObject();
        beginClearsAll();
        beginRefuses();
        coefficientSets();
        coefficientRefuses();
        rowSets();
        rowRefuses();
        wantSets();
        wantRefuses();
        driftSets();
        driftRefuses();
        CHECK.finish();
    }

    private static void newObject() {
        RationalProgram x = new RationalProgram();
        CHECK.due("1: all of a new object", "0|0/1|0/1|0/1|throws.UnsupportedOperationException"
                + "|throws.IllegalStateException|0/1:0/1 1/1:0/1", () -> Ask.everything(x, 1, 0));
        CHECK.badIndex("1: no row", () -> x.row(0, 0, 0));
        CHECK.badIndex("1: one variable", () -> x.want(1, 0));
        CHECK.done("1: variable 0", () -> x.want(0, 0));
    }

    /** A program in which every number is other than 0. */
    private static RationalProgram busy() {
        RationalProgram x = Ask.wanting(3, 3, 2, 1);
        Ask.setRow(x, 0, 0, 20, 1, 2, 1);
        Ask.setRow(x, 1, 2, 3, 2, 1, 1);
        Ask.setRow(x, 2, 1, 9, 1, 1, 3);
        x.drift(0, 4);
        x.drift(1, -2);
        x.drift(2, 9);
        return x;
    }

    private static void beginClearsAll() {
        RationalProgram x = busy();
        CHECK.due("2: the old program, asked before it goes", "0/1:27/1 1/1:54/1", () -> Ask.corners(x));
        CHECK.done("2: begin(4, 3)", () -> x.begin(4, 3));
        RationalProgram fresh = new RationalProgram();
        fresh.begin(4, 3);
        CHECK.due("2: a new program", Ask.everything(fresh, 4, 3), () -> Ask.everything(x, 4, 3));
        // Each number is looked at by itself, as the zeros of the others would hide it.
        x.want(3, 1);
        x.coefficient(1, 3, 1);
        x.drift(1, 2);
        CHECK.due("2: b of the old program is gone", "0/1:0/1 1/1:2/1", () -> Ask.corners(x));
        x.begin(4, 3);
        x.want(3, -1);
        Ask.setRow(x, 0, 2, 5, 0, 0, 0, 1);
        CHECK.due("2: a and c of the old program are gone", "-5/1", () -> Ask.value(x));
        CHECK.due("2: e of the old program is gone", "0/1:-5/1 1/1:-5/1", () -> Ask.corners(x));
        x.coefficient(1, 3, 1);
        CHECK.due("2: row 1 is at most 0 again", 1, x::solve);
        x.row(1, 0, 7);
        x.coefficient(2, 3, 1);
        x.coefficient(2, 0, -1);
        CHECK.due("2: row 2 is at most 0 again", "5/1", () -> Ask.range(x, 0, false));
        CHECK.done("2: begin(2, 0)", () -> x.begin(2, 0));
        CHECK.badIndex("2: two variables", () -> x.want(2, 1));
        CHECK.badIndex("2: no row", () -> x.drift(0, 1));
    }

    private static void beginRefuses() {
        RationalProgram x = busy();
        String before = Ask.everything(x, 3, 3);
        int[][] bad = {{0, 0}, {5, 0}, {-1, 1}, {1, -1}, {1, 4}, {4, 4}, {0, 4}, {5, 3},
            {Integer.MIN_VALUE, 0}, {Integer.MAX_VALUE, 0}, {1, Integer.MIN_VALUE}, {1, Integer.MAX_VALUE}};
        for (int[] pair : bad) {
            CHECK.badArgument("2: begin(" + pair[0] + ", " + pair[1] + ")", () -> x.begin(pair[0], pair[1]));
        }
        CHECK.due("2: a refused begin changes nothing", before, () -> Ask.everything(x, 3, 3));
        for (int n = 1; n <= 4; n++) {
            for (int m = 0; m <= 3; m++) {
                int columns = n;
                int rows = m;
                CHECK.done("2: begin(" + n + ", " + m + ")", () -> x.begin(columns, rows));
            }
        }
    }

    private static void coefficientSets() {
        RationalProgram x = Ask.wanting(1, 1, 1);
        Ask.setRow(x, 0, 0, 18, 9, 1);
        CHECK.due("3: a(0, 0) = 9", "2/1", () -> Ask.range(x, 0, true));
        x.coefficient(0, 1, 4);
        CHECK.due("3: a(0, 1) = 4", "9/2", () -> Ask.range(x, 1, true));
        x.coefficient(0, 0, 3);
        CHECK.due("3: a(0, 0) = 3 after an answer", "6/1", () -> Ask.range(x, 0, true));
        x.coefficient(0, 0, -9);
        CHECK.due("3: a(0, 0) = -9", "throws.UnsupportedOperationException", () -> Ask.range(x, 0, true));
    }

    private static void coefficientRefuses() {
        RationalProgram x = busy();
        String before = Ask.everything(x, 3, 3);
        int[][] places = {{-1, 0}, {3, 0}, {0, -1}, {0, 3}, {Integer.MAX_VALUE, 0}, {0, Integer.MIN_VALUE}, {3, 3}};
        for (int[] at : places) {
            CHECK.badIndex("3: no place", () -> x.coefficient(at[0], at[1], 1));
            CHECK.badIndex("3: no place, named before the number", () -> x.coefficient(at[0], at[1], 10));
        }
        for (int v : new int[] {-10, 10, Integer.MIN_VALUE, Integer.MAX_VALUE}) {
            CHECK.badArgument("3: v = " + v, () -> x.coefficient(2, 2, v));
        }
        CHECK.due("3: a refused coefficient changes nothing", before, () -> Ask.everything(x, 3, 3));
    }

    private static void rowSets() {
        RationalProgram x = Ask.wanting(1, -1);
        Ask.setRow(x, 0, 2, 50, 1);
        CHECK.due("4: at least 50", "-50/1", () -> Ask.value(x));
        x.row(0, 1, 30);
        CHECK.due("4: is 30", "30/1", () -> Ask.range(x, 0, true));
        x.row(0, 0, 7);
        CHECK.due("4: at most 7", "0/1", () -> Ask.value(x));
        CHECK.due("4: at most 7, high", "7/1", () -> Ask.range(x, 0, true));
        x.row(0, 0, -50);
        CHECK.due("4: at most -50", 1, x::solve);
        x.row(0, 2, -50);
        CHECK.due("4: at least -50", 0, x::solve);
    }

    private static void rowRefuses() {
        RationalProgram x = busy();
        String before = Ask.everything(x, 3, 3);
        for (int i : new int[] {-1, 3, Integer.MIN_VALUE, Integer.MAX_VALUE}) {
            CHECK.badIndex("4: row " + i, () -> x.row(i, 0, 0));
            CHECK.badIndex("4: row " + i + ", named before the sense", () -> x.row(i, 3, 51));
        }
        for (int sense : new int[] {-1, 3, Integer.MIN_VALUE, Integer.MAX_VALUE}) {
            CHECK.badArgument("4: sense " + sense, () -> x.row(0, sense, 0));
        }
        for (int right : new int[] {-51, 51, Integer.MIN_VALUE, Integer.MAX_VALUE}) {
            CHECK.badArgument("4: right " + right, () -> x.row(1, 1, right));
        }
        CHECK.due("4: a refused row changes nothing", before, () -> Ask.everything(x, 3, 3));
    }

    private static void wantSets() {
        RationalProgram x = Ask.wanting(1, 9, -9);
        Ask.setRow(x, 0, 1, 6, 1, 2);
        CHECK.due("5: c = 9, -9", "54/1", () -> Ask.value(x));
        x.want(0, -9);
        x.want(1, 9);
        CHECK.due("5: c = -9, 9 after an answer", "27/1", () -> Ask.value(x));
        CHECK.due("5: corners after an answer", "0/1:27/1 1/1:27/1", () -> Ask.corners(x));
        x.want(1, 0);
        CHECK.due("5: c = -9, 0", "0/1", () -> Ask.value(x));
        CHECK.due("5: corners again", "0/1:0/1 1/1:0/1", () -> Ask.corners(x));
    }

    private static void wantRefuses() {
        RationalProgram x = busy();
        String before = Ask.everything(x, 3, 3);
        for (int j : new int[] {-1, 3, 4, Integer.MIN_VALUE, Integer.MAX_VALUE}) {
            CHECK.badIndex("5: variable " + j, () -> x.want(j, 0));
            CHECK.badIndex("5: variable " + j + ", named before the number", () -> x.want(j, 10));
        }
        for (int v : new int[] {-10, 10, Integer.MIN_VALUE, Integer.MAX_VALUE}) {
            CHECK.badArgument("5: v = " + v, () -> x.want(0, v));
        }
        CHECK.due("5: a refused want changes nothing", before, () -> Ask.everything(x, 3, 3));
    }

    private static void driftSets() {
        RationalProgram x = Ask.wanting(1, 1);
        Ask.setRow(x, 0, 0, 10, 1);
        x.drift(0, 9);
        CHECK.due("6: e = 9", "0/1:10/1 1/1:19/1", () -> Ask.corners(x));
        x.drift(0, -9);
        CHECK.due("6: e = -9", "0/1:10/1 1/1:1/1", () -> Ask.corners(x));
        x.row(0, 0, 20);
        CHECK.due("6: row leaves e", "0/1:20/1 1/1:11/1", () -> Ask.corners(x));
        CHECK.due("6: drift leaves the program at 0", "20/1", () -> Ask.value(x));
        x.drift(0, 0);
        CHECK.due("6: e = 0", "0/1:20/1 1/1:20/1", () -> Ask.corners(x));
    }

    private static void driftRefuses() {
        RationalProgram x = busy();
        String before = Ask.everything(x, 3, 3);
        for (int i : new int[] {-1, 3, Integer.MIN_VALUE, Integer.MAX_VALUE}) {
            CHECK.badIndex("6: row " + i, () -> x.drift(i, 0));
            CHECK.badIndex("6: row " + i + ", named before the number", () -> x.drift(i, -10));
        }
        for (int v : new int[] {-10, 10, Integer.MIN_VALUE, Integer.MAX_VALUE}) {
            CHECK.badArgument("6: v = " + v, () -> x.drift(0, v));
        }
        CHECK.due("6: a refused drift changes nothing", before, () -> Ask.everything(x, 3, 3));
    }
}
