import java.util.Random;

/**
 * Runs of 512 calls, good and bad, each answer beside that of the model. No run is longer, as the document leaves free
 * what later calls answer. The seed is fixed, so every run is the same.
 */
public final class ModelTest {
    private static final int RUNS = 220;
    private static final int MOST_CALLS = 512;
    private static final int[] REACHES = {1, 2, 4, 9};

    private final Check check = new Check();
    private final Random random = new Random(20261115);
    private RationalProgram x;
    private Model model;
    private StringBuilder run;
    private int calls;
    private int n;
    private int m;

    private ModelTest() {
    }

    public static void main(String[] args) {
        int runs = args.length > 0 ? Integer.parseInt(args[0]) : RUNS;
        ModelTest test = new ModelTest();
        test.check.sentence("What it is", "An object is used for at most 512 calls after it has been made", () -> {
            for (int k = 0; k < runs; k++) {
                test.oneRun();
            }
        });
        test.check.finish();
    }

    private void oneRun() {
        x = new RationalProgram();
        model = new Model();
        run = new StringBuilder();
        calls = 0;
        n = 1;
        m = 0;
        int reach = REACHES[random.nextInt(REACHES.length)];
        askAll();
        while (calls < MOST_CALLS) {
            makeProgram(Numbers.some(random, reach));
            askAll();
            for (int k = random.nextInt(4); k > 0; k--) {
                wildChange();
            }
            askAll();
            wildQuestion();
        }
    }

    private void makeProgram(Numbers numbers) {
        change("begin", numbers.n, numbers.m, 0);
        for (int i = 0; i < numbers.m; i++) {
            for (int j = 0; j < numbers.n; j++) {
                change("coefficient", i, j, numbers.a[i][j]);
            }
            change("row", i, numbers.senses[i], numbers.b[i]);
            change("drift", i, numbers.e[i], 0);
        }
        for (int j = 0; j < numbers.n; j++) {
            change("want", j, numbers.c[j], 0);
        }
    }

    private void wildChange() {
        String[] names = {"coefficient", "row", "want", "drift", "begin"};
        int kind = random.nextInt(9);
        change(names[kind < 8 ? kind % 4 : 4], wild(m), wild(n), wild(60));
    }

    /** Mostly from 0 to the limit; now and then just outside, or far outside. */
    private int wild(int limit) {
        int kind = random.nextInt(12);
        if (kind == 0) {
            return -1 - random.nextInt(12);
        }
        if (kind == 1) {
            return limit + random.nextInt(3);
        }
        if (kind == 2 && random.nextInt(8) == 0) {
            return random.nextBoolean() ? Integer.MAX_VALUE : Integer.MIN_VALUE;
        }
        return limit == 60 ? Numbers.upTo(random, 10) : random.nextInt(Math.max(1, limit));
    }

    private void change(String name, int p, int q, int r) {
        if (calls == MOST_CALLS) {
            return;
        }
        calls++;
        String call = name + "(" + p + ", " + q + ", " + r + ")";
        String due = Check.told(Check.asCall(() -> changeModel(name, p, q, r)));
        if (due.equals("done") && name.equals("begin")) {
            n = p;
            m = q;
        }
        run.append(call).append("; ");
        check.due(run.toString(), due, Check.asCall(() -> changeProgram(name, p, q, r)));
    }

    private void changeModel(String name, int p, int q, int r) {
        switch (name) {
            case "begin" -> model.begin(p, q);
            case "coefficient" -> model.coefficient(p, q, r);
            case "row" -> model.row(p, q, r);
            case "want" -> model.want(p, q);
            default -> model.drift(p, q);
        }
    }

    private void changeProgram(String name, int p, int q, int r) {
        switch (name) {
            case "begin" -> x.begin(p, q);
            case "coefficient" -> x.coefficient(p, q, r);
            case "row" -> x.row(p, q, r);
            case "want" -> x.want(p, q);
            default -> x.drift(p, q);
        }
    }

    /** The questions come in an order of their own each time, as one may spoil what the next one finds. */
    private void askAll() {
        int start = random.nextInt(5);
        for (int k = 0; k < 5; k++) {
            ask((start + k) % 5);
        }
    }

    private void ask(int kind) {
        switch (kind) {
            case 0 -> {
                question("solve()", x::solve, model::solve);
                question("value(0)", () -> x.value(0), () -> model.value(0));
                question("value(1)", () -> x.value(1), () -> model.value(1));
            }
            case 1 -> {
                for (int j = 0; j < n; j++) {
                    askVariable(j);
                }
            }
            case 2 -> {
                for (int i = 0; i < m; i++) {
                    int at = i;
                    question("tight(" + i + ")", () -> x.tight(at), () -> model.tight(at));
                }
            }
            case 3 -> question("conflict()", x::conflict, model::conflict);
            default -> askCorners();
        }
    }

    private void askVariable(int j) {
        for (int what = 0; what < 2; what++) {
            int part = what;
            question("point(" + j + ", " + what + ")", () -> x.point(j, part), () -> model.point(j, part));
            question("range(" + j + ", false, " + what + ")", () -> x.range(j, false, part), () -> model.range(j, false, part));
            question("range(" + j + ", true, " + what + ")", () -> x.range(j, true, part), () -> model.range(j, true, part));
        }
    }

    private void askCorners() {
        question("corners()", x::corners, model::corners);
        int count = model.corners();
        for (int k = 0; k <= count; k++) {
            for (int what = 0; what < 4; what++) {
                int at = k;
                int part = what;
                question("corner(" + k + ", " + what + ")", () -> x.corner(at, part), () -> model.corner(at, part));
            }
        }
    }

    private void wildQuestion() {
        int j = wild(n);
        int i = wild(m);
        int what = wild(2);
        boolean high = random.nextBoolean();
        question("value(" + what + ")", () -> x.value(what), () -> model.value(what));
        question("point(" + j + ", " + what + ")", () -> x.point(j, what), () -> model.point(j, what));
        question("range(" + j + ", " + high + ", " + what + ")", () -> x.range(j, high, what),
                () -> model.range(j, high, what));
        question("tight(" + i + ")", () -> x.tight(i), () -> model.tight(i));
        question("corner(" + j + ", " + what + ")", () -> x.corner(j, what), () -> model.corner(j, what));
    }

    private void question(String call, Check.Call asked, Check.Call due) {
        if (calls == MOST_CALLS) {
            return;
        }
        calls++;
        check.due(run + call, Check.told(due), asked);
    }
}
