/** Promises 7 to 14: solve, value, point, range, tight, conflict, corners and corner. */
public final class AnswersTest {
    private static final Check CHECK = new Check();

    private AnswersTest() {
    }

    public static void main(String[] args) {
        solves();
        values();
        points();
        ranges();
        tightRows();
        conflicts();
        corners();
        cornersAreRefused();
        CHECK.finish();
    }

    private static void solves() {
        CHECK.due("7: OPTIMAL", 0, () -> Programs.optimal().solve());
        CHECK.due("7: INFEASIBLE", 1, () -> Programs.infeasible().solve());
        CHECK.due("7: UNBOUNDED", 2, () -> Programs.unbounded().solve());
        RationalProgram both = Ask.wanting(1, 1, 9);
        Ask.setRow(both, 0, 1, -3, 1, 0);
        CHECK.due("7: INFEASIBLE though x(1) is free to grow", 1, both::solve);
        RationalProgram endless = Ask.wanting(1, -1, 1);
        Ask.setRow(endless, 0, 1, 0, 1, -1);
        CHECK.due("7: OPTIMAL though endless", 0, endless::solve);
        RationalProgram empty = Ask.wanting(3, 0);
        Ask.setRow(empty, 0, 2, 1, 0);
        CHECK.due("7: a row of zeros that can't hold", 1, empty::solve);
        empty.row(0, 0, 1);
        CHECK.due("7: a row of zeros that holds", 0, empty::solve);
        RationalProgram twice = Ask.wanting(3, 1, 1);
        for (int i = 0; i < 3; i++) {
            Ask.setRow(twice, i, 1, 5 * (i + 1), i + 1, 2 * (i + 1));
        }
        CHECK.due("7: the same row three times", 0, twice::solve);
        twice.row(2, 1, 14);
        CHECK.due("7: the same row but for the right side", 1, twice::solve);
    }

    private static void values() {
        RationalProgram x = Ask.wanting(1, 4);
        Ask.setRow(x, 0, 0, 7, 6);
        CHECK.due("8: without a common divisor", "14/3", () -> Ask.value(x));
        x.want(0, 0);
        CHECK.due("8: zero is 0 and 1", "0/1", () -> Ask.value(x));
        x.want(0, -4);
        x.row(0, 2, 7);
        CHECK.due("8: the one below is above 0", "-14/3", () -> Ask.value(x));
        x.want(0, -9);
        CHECK.due("8: below 0 without a common divisor", "-21/2", () -> Ask.value(x));
        for (int what : new int[] {-1, 2, 3, Integer.MIN_VALUE, Integer.MAX_VALUE}) {
            CHECK.badArgument("8: what " + what, () -> x.value(what));
            CHECK.badState("8: the state is named first", () -> Programs.infeasible().value(what));
        }
        CHECK.badState("8: INFEASIBLE", () -> Programs.infeasible().value(0));
        CHECK.badState("8: UNBOUNDED", () -> Programs.unbounded().value(1));
    }

    private static void points() {
        CHECK.due("9: least x(0)", "0/1 4/1", () -> Ask.point(Programs.optimal(), 2));
        RationalProgram one = Programs.optimal();
        one.want(0, 2);
        CHECK.due("9: one best point", "8/3 4/3", () -> Ask.point(one, 2));
        RationalProgram flat = Ask.wanting(1, 1, 1, 1, 1);
        Ask.setRow(flat, 0, 0, 5, 1, 1, 1, 1);
        CHECK.due("9: least x(0), x(1), x(2)", "0/1 0/1 0/1 5/1", () -> Ask.point(flat, 4));
        RationalProgram later = Ask.wanting(2, 0, 0, 0);
        Ask.setRow(later, 0, 2, 3, 1, 1, 1);
        Ask.setRow(later, 1, 0, 2, 0, 0, 1);
        CHECK.due("9: the least x(0) first, though x(1) must be more", "0/1 1/1 2/1", () -> Ask.point(later, 3));
        RationalProgram x = Programs.optimal();
        for (int j : new int[] {-1, 2, Integer.MIN_VALUE, Integer.MAX_VALUE}) {
            CHECK.badIndex("9: variable " + j, () -> x.point(j, 0));
            CHECK.badIndex("9: the index is named before what", () -> x.point(j, 2));
            CHECK.badState("9: the state is named first", () -> Programs.unbounded().point(j, 2));
        }
        for (int what : new int[] {-1, 2, Integer.MIN_VALUE, Integer.MAX_VALUE}) {
            CHECK.badArgument("9: what " + what, () -> x.point(1, what));
        }
        CHECK.badState("9: INFEASIBLE", () -> Programs.infeasible().point(0, 0));
        CHECK.badState("9: UNBOUNDED", () -> Programs.unbounded().point(0, 0));
    }

    private static void ranges() {
        RationalProgram x = Programs.optimal();
        CHECK.due("10: least", "0/1", () -> Ask.range(x, 0, false));
        CHECK.due("10: greatest", "8/3", () -> Ask.range(x, 0, true));
        x.want(0, -1);
        CHECK.due("10: of all feasible points", "8/3", () -> Ask.range(x, 0, true));
        RationalProgram open = Programs.unbounded();
        open.row(0, 2, 3);
        CHECK.due("10: UNBOUNDED programs have a least", "3/1", () -> Ask.range(open, 0, false));
        CHECK.due("10: no greatest", "throws.UnsupportedOperationException", () -> open.range(0, true, 0));
        CHECK.badArgument("10: what is named before that", () -> open.range(0, true, 2));
        open.begin(2, 1);
        open.want(1, 1);
        Ask.setRow(open, 0, 0, 5, 3, 0);
        CHECK.due("10: a greatest though another grows", "5/3", () -> Ask.range(open, 0, true));
        for (int j : new int[] {-1, 2, Integer.MIN_VALUE, Integer.MAX_VALUE}) {
            CHECK.badIndex("10: variable " + j, () -> open.range(j, true, 0));
            CHECK.badIndex("10: the index is named before what", () -> open.range(j, false, -1));
            CHECK.badState("10: the state is named first", () -> Programs.infeasible().range(j, true, 2));
        }
        for (int what : new int[] {-1, 2, Integer.MIN_VALUE, Integer.MAX_VALUE}) {
            CHECK.badArgument("10: what " + what, () -> open.range(0, false, what));
        }
        CHECK.badState("10: INFEASIBLE", () -> Programs.infeasible().range(0, false, 0));
    }

    private static void tightRows() {
        RationalProgram x = Programs.optimal();
        CHECK.due("11: in all best points", true, () -> x.tight(0));
        CHECK.due("11: in one of them only", false, () -> x.tight(1));
        x.want(0, 2);
        CHECK.due("11: in the only best point", true, () -> x.tight(1));
        RationalProgram endless = Ask.wanting(2, 1, -1, 0);
        Ask.setRow(endless, 0, 0, 2, 1, -1, 0);
        Ask.setRow(endless, 1, 2, 0, 0, 0, 1);
        CHECK.due("11: sharp along the best direction", true, () -> endless.tight(0));
        CHECK.due("11: sharp in the best corner, not along the way", false, () -> endless.tight(1));
        RationalProgram zeros = Ask.wanting(2, -1);
        CHECK.due("11: a row of zeros", true, () -> zeros.tight(0));
        zeros.row(1, 0, 1);
        CHECK.due("11: a row of zeros with right side 1", false, () -> zeros.tight(1));
        for (int i : new int[] {-1, 2, Integer.MIN_VALUE, Integer.MAX_VALUE}) {
            CHECK.badIndex("11: row " + i, () -> x.tight(i));
            CHECK.badState("11: the state is named first", () -> Programs.infeasible().tight(i));
        }
        CHECK.badState("11: UNBOUNDED", () -> Programs.unbounded().tight(0));
    }

    private static void conflicts() {
        CHECK.due("12: both rows", 3, () -> Programs.infeasible().conflict());
        RationalProgram x = Ask.wanting(3, 0, 0);
        Ask.setRow(x, 0, 0, -1, 1, 0);
        Ask.setRow(x, 1, 0, 1, 0, 1);
        Ask.setRow(x, 2, 2, 2, 0, 1);
        CHECK.due("12: row 0 is left out first, so 1 and 2 stay", 6, x::conflict);
        CHECK.due("12: asked again", 6, x::conflict);
        CHECK.due("12: the program is left as it was", 1, x::solve);
        x.row(1, 0, 2);
        CHECK.due("12: row 0 by itself", 1, x::conflict);
        x.begin(1, 3);
        Ask.setRow(x, 0, 1, 1, 1);
        Ask.setRow(x, 1, 1, 2, 1);
        Ask.setRow(x, 2, 1, 3, 1);
        CHECK.due("12: the last two of three", 6, x::conflict);
        x.begin(2, 3);
        Ask.setRow(x, 0, 0, 3, 1, 1);
        Ask.setRow(x, 1, 2, 2, 1, 0);
        Ask.setRow(x, 2, 2, 2, 0, 1);
        CHECK.due("12: all three", 7, x::conflict);
        CHECK.badState("12: OPTIMAL", () -> Programs.optimal().conflict());
        CHECK.badState("12: UNBOUNDED", () -> Programs.unbounded().conflict());
        CHECK.badState("12: a new object", () -> new RationalProgram().conflict());
    }

    private static void corners() {
        RationalProgram x = Ask.wanting(2, 1);
        Ask.setRow(x, 0, 0, 0, 1);
        Ask.setRow(x, 1, 0, 4, 2);
        x.drift(0, 5);
        CHECK.due("13: V bends at 2/5", "0/1:0/1 2/5:2/1 1/1:2/1", () -> Ask.corners(x));
        CHECK.due("13: three corners", 3, x::corners);
        x.row(0, 0, -1);
        CHECK.due("13: feasible from 1/5 on", "1/5:0/1 3/5:2/1 1/1:2/1", () -> Ask.corners(x));
        CHECK.due("13: though INFEASIBLE at 0", 1, x::solve);
        x.row(0, 0, -5);
        CHECK.due("13: t0 = t1 = 1 is one corner", "1/1:0/1", () -> Ask.corners(x));
        x.row(0, 0, -6);
        CHECK.due("13: none when no t is feasible", 0, x::corners);
        CHECK.due("13: none when all are UNBOUNDED", 0, () -> Programs.unbounded().corners());
        x.begin(1, 2);
        x.want(0, -3);
        Ask.setRow(x, 0, 1, 2, 1);
        Ask.setRow(x, 1, 1, 3, 1);
        x.drift(0, 4);
        CHECK.due("13: one corner between 0 and 1", "1/4:-9/1", () -> Ask.corners(x));
        x.begin(1, 1);
        x.want(0, 1);
        Ask.setRow(x, 0, 1, 3, 1);
        x.drift(0, -9);
        CHECK.due("13: feasible up to 1/3", "0/1:3/1 1/3:0/1", () -> Ask.corners(x));
        x.begin(2, 3);
        x.want(0, 1);
        x.want(1, 1);
        Ask.setRow(x, 0, 0, 1, 1, 1);
        Ask.setRow(x, 1, 0, 3, 1, 0);
        Ask.setRow(x, 2, 0, 3, 0, 1);
        x.drift(0, 3);
        x.drift(1, -3);
        x.drift(2, -1);
        CHECK.due("13: up and then down", "0/1:1/1 5/7:22/7 1/1:2/1", () -> Ask.corners(x));
        x.drift(1, 0);
        x.drift(2, 0);
        CHECK.due("13: no bend where only the point turns", "0/1:1/1 1/1:4/1", () -> Ask.corners(x));
    }

    private static void cornersAreRefused() {
        RationalProgram x = Programs.optimal();
        for (int k : new int[] {-1, 2, Integer.MIN_VALUE, Integer.MAX_VALUE}) {
            CHECK.badIndex("14: corner " + k, () -> x.corner(k, 0));
            CHECK.badIndex("14: the index is named first", () -> x.corner(k, 4));
        }
        for (int what : new int[] {-1, 4, Integer.MIN_VALUE, Integer.MAX_VALUE}) {
            CHECK.badArgument("14: what " + what, () -> x.corner(1, what));
        }
        CHECK.badIndex("14: no corners at all", () -> Programs.infeasible().corner(0, 0));
        CHECK.badIndex("14: no corners when UNBOUNDED", () -> Programs.unbounded().corner(0, 0));
        RationalProgram y = Ask.wanting(2, 2);
        Ask.setRow(y, 0, 0, 0, 9);
        Ask.setRow(y, 1, 0, 2, 6);
        y.drift(0, 9);
        String[] due = {"1", "3", "2", "3"};
        for (int what = 0; what < 4; what++) {
            int part = what;
            CHECK.due("14: corner 1, what " + what, due[what], () -> y.corner(1, part));
        }
        CHECK.due("14: corner 2 is t1", "1", () -> y.corner(2, 0));
    }
}
