/**
 * Promises 1 to 6, sentence by sentence: the edges of what is taken, what is refused and with which exception, and
 * that a refused call changes nothing. Every number of a program is looked at by itself (see Numbers).
 */
public final class ChangesBoundaryTest {
    private static final Check CHECK = new Check();

    private ChangesBoundaryTest() {
    }

    public static void main(String[] args) {
        CHECK.sentence("Promise 1", "The program with one variable and no rows; all numbers are 0.",
                ChangesBoundaryTest::newObject);
        CHECK.sentence("Promise 2", "A new program: all a, b, c, e are 0, all senses 0.",
                ChangesBoundaryTest::beginMakesAllZero);
        CHECK.sentence("Promise 2", "A new program: all a, b, c, e are 0, all senses 0.",
                ChangesBoundaryTest::beginForgetsBetweenSizes);
        CHECK.sentence("Promise 2", "A new program: all a, b, c, e are 0, all senses 0.",
                ChangesBoundaryTest::firstChangeAfterBegin);
        CHECK.sentence("Promise 2", "IllegalArgumentException, changing nothing, when n is not 1 .. 4 or m not 0 .. 3.",
                ChangesBoundaryTest::beginTakesAndRefuses);
        CHECK.sentence("Promise 2", "IllegalArgumentException, changing nothing, when n is not 1 .. 4 or m not 0 .. 3.",
                ChangesBoundaryTest::refusedBeginChangesNothing);
        CHECK.sentence("Promise 3", "a(i, j) becomes v.", ChangesBoundaryTest::coefficientBecomes);
        CHECK.sentence("Promise 3", "IndexOutOfBoundsException when there is no row i or no variable j",
                ChangesBoundaryTest::coefficientRefusesPlaces);
        CHECK.sentence("Promise 3", "IllegalArgumentException when v is not -9 .. 9",
                ChangesBoundaryTest::coefficientRefusesNumbers);
        CHECK.sentence("Promise 3", "both change nothing.", ChangesBoundaryTest::refusedCoefficientChangesNothing);
        CHECK.sentence("Promise 4", "Row i gets a sense and a right side.", ChangesBoundaryTest::rowGets);
        CHECK.sentence("Promise 4", "IndexOutOfBoundsException when there is no row i",
                ChangesBoundaryTest::rowRefusesPlaces);
        CHECK.sentence("Promise 4", "IllegalArgumentException when sense is not 0 .. 2 or right not -50 .. 50",
                ChangesBoundaryTest::rowRefusesNumbers);
        CHECK.sentence("Promise 4", "both change nothing.", ChangesBoundaryTest::refusedRowChangesNothing);
        CHECK.sentence("Promise 5", "c(j) becomes v.", ChangesBoundaryTest::wantBecomes);
        CHECK.sentence("Promise 5", "IndexOutOfBoundsException when there is no variable j",
                ChangesBoundaryTest::wantRefusesPlaces);
        CHECK.sentence("Promise 5", "IllegalArgumentException when v is not -9 .. 9",
                ChangesBoundaryTest::wantRefusesNumbers);
        CHECK.sentence("Promise 5", "both change nothing.", ChangesBoundaryTest::refusedWantChangesNothing);
        CHECK.sentence("Promise 6", "e(i) becomes v.", ChangesBoundaryTest::driftBecomes);
        CHECK.sentence("Promise 6", "IndexOutOfBoundsException when there is no row i",
                ChangesBoundaryTest::driftRefusesPlaces);
        CHECK.sentence("Promise 6", "IllegalArgumentException when v is not -9 .. 9",
                ChangesBoundaryTest::driftRefusesNumbers);
        CHECK.sentence("Promise 6", "both change nothing.", ChangesBoundaryTest::refusedDriftChangesNothing);
        CHECK.finish();
    }

    private static void newObject() {
        CHECK.due("what a new object shows", new Numbers(1, 0), () -> Numbers.read(RationalProgram::new));
        RationalProgram x = new RationalProgram();
        CHECK.due("its variable", Edges.DONE, Edges.touching(x, p -> p.want(0, 0)));
        CHECK.due("a second variable", Edges.INDEX, Edges.touching(x, p -> p.want(1, 0)));
        CHECK.due("a row", Edges.INDEX, Edges.touching(x, p -> p.row(0, 0, 0)));
        CHECK.due("a drift", Edges.INDEX, Edges.touching(x, p -> p.drift(0, 0)));
        CHECK.due("a coefficient", Edges.INDEX, Edges.touching(x, p -> p.coefficient(0, 0, 0)));
    }

    private static void beginMakesAllZero() {
        Edges.inEverySize((n, m) -> CHECK.due("begin(" + n + ", " + m + ") after a full program", new Numbers(n, m),
                () -> Numbers.read(() -> Edges.touched(Numbers.full(), x -> x.begin(n, m)))));
        Edges.inEverySize((n, m) -> CHECK.due("begin(" + n + ", " + m + ") on a new object", new Numbers(n, m),
                () -> Numbers.read(() -> Edges.touched(new Numbers(1, 0), x -> x.begin(n, m)))));
    }

    private static void beginForgetsBetweenSizes() {
        Edges.inEverySize((n, m) -> CHECK.due("a full program, begin(" + n + ", " + m + "), begin(4, 3)",
                new Numbers(4, 3), () -> Numbers.read(() -> Edges.touched(Numbers.full(), x -> {
                    x.begin(n, m);
                    x.begin(4, 3);
                }))));
    }

    /** A number that begin had left behind might come out only when another number of its row is set. */
    private static void firstChangeAfterBegin() {
        for (int i = 0; i < 3; i++) {
            int row = i;
            Numbers factor = new Numbers(4, 3);
            factor.a[row][3] = 9;
            afterBegin("coefficient(" + row + ", 3, 9)", factor, x -> x.coefficient(row, 3, 9));
            Numbers right = new Numbers(4, 3);
            right.senses[row] = 2;
            right.b[row] = -50;
            afterBegin("row(" + row + ", 2, -50)", right, x -> x.row(row, 2, -50));
            Numbers drift = new Numbers(4, 3);
            drift.e[row] = 9;
            afterBegin("drift(" + row + ", 9)", drift, x -> x.drift(row, 9));
        }
        for (int j = 0; j < 4; j++) {
            int variable = j;
            Numbers want = new Numbers(4, 3);
            want.c[variable] = -9;
            afterBegin("want(" + variable + ", -9)", want, x -> x.want(variable, -9));
        }
    }

    private static void afterBegin(String call, Numbers due, Edges.Touch touch) {
        shows("begin(4, 3), " + call, due, x -> {
            x.begin(4, 3);
            touch.on(x);
        });
    }

    /** A full program that is touched shows these numbers, and answers as a program made of them. */
    private static void shows(String calls, Numbers due, Edges.Touch touch) {
        CHECK.due("after " + calls, due, () -> Numbers.read(() -> Edges.touched(Numbers.full(), touch)));
        CHECK.due("the answers after " + calls, Ask.everything(due.make(), due.n, due.m),
                () -> Ask.everything(Edges.touched(Numbers.full(), touch), due.n, due.m));
    }

    private static void beginTakesAndRefuses() {
        for (int n : Edges.around(1, 4)) {
            for (int m : Edges.around(0, 3)) {
                String due = Edges.isIn(n, 1, 4) && Edges.isIn(m, 0, 3) ? Edges.DONE : Edges.ARGUMENT;
                CHECK.due("begin(" + n + ", " + m + ")", due,
                        Edges.touching(new RationalProgram(), x -> x.begin(n, m)));
            }
        }
    }

    private static void refusedBeginChangesNothing() {
        for (int n : Edges.outside(1, 4)) {
            changesNothing("begin(" + n + ", 2)", x -> x.begin(n, 2));
            changesNothing("begin(" + n + ", 4)", x -> x.begin(n, 4));
        }
        for (int m : Edges.outside(0, 3)) {
            changesNothing("begin(2, " + m + ")", x -> x.begin(2, m));
            changesNothing("begin(0, " + m + ")", x -> x.begin(0, m));
        }
    }

    /** Of a program full of numbers, of a small one, and of a new one. */
    private static void changesNothing(String call, Edges.Touch touch) {
        Numbers small = new Numbers(2, 1);
        small.a[0][1] = 7;
        small.b[0] = 3;
        small.e[0] = -2;
        small.c[1] = 5;
        for (Numbers before : new Numbers[] {Numbers.full(), small, new Numbers(1, 0)}) {
            CHECK.due("after " + call, before, () -> Numbers.read(() -> Edges.touched(before, touch)));
            CHECK.due("the answers after " + call, Ask.everything(before.make(), before.n, before.m),
                    () -> Ask.everything(Edges.touched(before, touch), before.n, before.m));
        }
    }

    private static void coefficientBecomes() {
        for (int v : new int[] {-9, -8, -1, 0, 1, 8, 9}) {
            for (int place = 0; place < 12; place++) {
                int i = place / 4;
                int j = place % 4;
                Numbers due = Numbers.full();
                due.a[i][j] = v;
                shows("coefficient(" + i + ", " + j + ", " + v + ")", due, x -> x.coefficient(i, j, v));
            }
        }
    }

    private static void coefficientRefusesPlaces() {
        Edges.inEverySize((n, m) -> {
            for (int i : Edges.around(0, m - 1)) {
                for (int j : Edges.around(0, n - 1)) {
                    boolean there = Edges.isIn(i, 0, m - 1) && Edges.isIn(j, 0, n - 1);
                    RationalProgram x = new Numbers(n, m).make();
                    String call = n + " variables, " + m + " rows: coefficient(" + i + ", " + j;
                    CHECK.due(call + ", 9)", there ? Edges.DONE : Edges.INDEX,
                            Edges.touching(x, p -> p.coefficient(i, j, 9)));
                    CHECK.due(call + ", 10): of two exceptions the first", there ? Edges.ARGUMENT : Edges.INDEX,
                            Edges.touching(x, p -> p.coefficient(i, j, 10)));
                }
            }
        });
    }

    private static void coefficientRefusesNumbers() {
        for (int v : Edges.around(-9, 9)) {
            CHECK.due("coefficient(2, 3, " + v + ")", Edges.isIn(v, -9, 9) ? Edges.DONE : Edges.ARGUMENT,
                    Edges.touching(new Numbers(4, 3).make(), x -> x.coefficient(2, 3, v)));
        }
    }

    private static void refusedCoefficientChangesNothing() {
        for (int v : Edges.outside(-9, 9)) {
            changesNothing("coefficient(0, 0, " + v + ")", x -> x.coefficient(0, 0, v));
        }
        for (int i : Edges.outside(0, 2)) {
            changesNothing("coefficient(" + i + ", 0, 4)", x -> x.coefficient(i, 0, 4));
        }
        for (int j : Edges.outside(0, 3)) {
            changesNothing("coefficient(0, " + j + ", 4)", x -> x.coefficient(0, j, 4));
        }
    }

    private static void rowGets() {
        for (int right : new int[] {-50, -49, -1, 0, 1, 49, 50}) {
            for (int place = 0; place < 9; place++) {
                int i = place / 3;
                int sense = place % 3;
                Numbers due = Numbers.full();
                due.senses[i] = sense;
                due.b[i] = right;
                shows("row(" + i + ", " + sense + ", " + right + ")", due, x -> x.row(i, sense, right));
            }
        }
    }

    private static void rowRefusesPlaces() {
        Edges.inEverySize((n, m) -> {
            for (int i : Edges.around(0, m - 1)) {
                boolean there = Edges.isIn(i, 0, m - 1);
                RationalProgram x = new Numbers(n, m).make();
                String call = n + " variables, " + m + " rows: row(" + i;
                CHECK.due(call + ", 2, 50)", there ? Edges.DONE : Edges.INDEX,
                        Edges.touching(x, p -> p.row(i, 2, 50)));
                CHECK.due(call + ", 3, 0): of two exceptions the first", there ? Edges.ARGUMENT : Edges.INDEX,
                        Edges.touching(x, p -> p.row(i, 3, 0)));
                CHECK.due(call + ", 0, 51): of two exceptions the first", there ? Edges.ARGUMENT : Edges.INDEX,
                        Edges.touching(x, p -> p.row(i, 0, 51)));
            }
        });
    }

    private static void rowRefusesNumbers() {
        for (int sense : Edges.around(0, 2)) {
            for (int right : Edges.around(-50, 50)) {
                boolean taken = Edges.isIn(sense, 0, 2) && Edges.isIn(right, -50, 50);
                CHECK.due("row(2, " + sense + ", " + right + ")", taken ? Edges.DONE : Edges.ARGUMENT,
                        Edges.touching(new Numbers(4, 3).make(), x -> x.row(2, sense, right)));
            }
        }
    }

    private static void refusedRowChangesNothing() {
        for (int sense : Edges.outside(0, 2)) {
            changesNothing("row(0, " + sense + ", 5), a right side that would do",
                    x -> x.row(0, sense, 5));
        }
        for (int right : Edges.outside(-50, 50)) {
            changesNothing("row(0, 1, " + right + "), a sense that would do", x -> x.row(0, 1, right));
            changesNothing("row(0, 3, " + right + ")", x -> x.row(0, 3, right));
        }
        for (int i : Edges.outside(0, 2)) {
            changesNothing("row(" + i + ", 1, 5)", x -> x.row(i, 1, 5));
        }
    }

    private static void wantBecomes() {
        for (int v : new int[] {-9, -8, -1, 0, 1, 8, 9}) {
            for (int place = 0; place < 4; place++) {
                int j = place;
                Numbers due = Numbers.full();
                due.c[j] = v;
                shows("want(" + j + ", " + v + ")", due, x -> x.want(j, v));
            }
        }
    }

    private static void wantRefusesPlaces() {
        Edges.inEverySize((n, m) -> {
            for (int j : Edges.around(0, n - 1)) {
                boolean there = Edges.isIn(j, 0, n - 1);
                RationalProgram x = new Numbers(n, m).make();
                String call = n + " variables, " + m + " rows: want(" + j;
                CHECK.due(call + ", -9)", there ? Edges.DONE : Edges.INDEX,
                        Edges.touching(x, p -> p.want(j, -9)));
                CHECK.due(call + ", -10): of two exceptions the first", there ? Edges.ARGUMENT : Edges.INDEX,
                        Edges.touching(x, p -> p.want(j, -10)));
            }
        });
    }

    private static void wantRefusesNumbers() {
        for (int v : Edges.around(-9, 9)) {
            CHECK.due("want(3, " + v + ")", Edges.isIn(v, -9, 9) ? Edges.DONE : Edges.ARGUMENT,
                    Edges.touching(new Numbers(4, 3).make(), x -> x.want(3, v)));
        }
    }

    private static void refusedWantChangesNothing() {
        for (int v : Edges.outside(-9, 9)) {
            changesNothing("want(0, " + v + ")", x -> x.want(0, v));
        }
        for (int j : Edges.outside(0, 3)) {
            changesNothing("want(" + j + ", 4)", x -> x.want(j, 4));
        }
    }

    private static void driftBecomes() {
        for (int v : new int[] {-9, -8, -1, 0, 1, 8, 9}) {
            for (int place = 0; place < 3; place++) {
                int i = place;
                Numbers due = Numbers.full();
                due.e[i] = v;
                shows("drift(" + i + ", " + v + ")", due, x -> x.drift(i, v));
            }
        }
    }

    private static void driftRefusesPlaces() {
        Edges.inEverySize((n, m) -> {
            for (int i : Edges.around(0, m - 1)) {
                boolean there = Edges.isIn(i, 0, m - 1);
                RationalProgram x = new Numbers(n, m).make();
                String call = n + " variables, " + m + " rows: drift(" + i;
                CHECK.due(call + ", 9)", there ? Edges.DONE : Edges.INDEX,
                        Edges.touching(x, p -> p.drift(i, 9)));
                CHECK.due(call + ", 10): of two exceptions the first", there ? Edges.ARGUMENT : Edges.INDEX,
                        Edges.touching(x, p -> p.drift(i, 10)));
            }
        });
    }

    private static void driftRefusesNumbers() {
        for (int v : Edges.around(-9, 9)) {
            CHECK.due("drift(2, " + v + ")", Edges.isIn(v, -9, 9) ? Edges.DONE : Edges.ARGUMENT,
                    Edges.touching(new Numbers(4, 3).make(), x -> x.drift(2, v)));
        }
    }

    private static void refusedDriftChangesNothing() {
        for (int v : Edges.outside(-9, 9)) {
            changesNothing("drift(0, " + v + ")", x -> x.drift(0, v));
        }
        for (int i : Edges.outside(0, 2)) {
            changesNothing("drift(" + i + ", 4)", x -> x.drift(i, 4));
        }
    }
}
