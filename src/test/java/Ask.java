import java.util.ArrayList;
import java.util.List;

/** Programs written shortly, and their answers as texts. */
final class Ask {
    private Ask() {
    }

    /** A program without rows that wants these. */
    static RationalProgram wanting(int rows, int... wants) {
        RationalProgram x = new RationalProgram();
        x.begin(wants.length, rows);
        for (int j = 0; j < wants.length; j++) {
            x.want(j, wants[j]);
        }
        return x;
    }

    static void setRow(RationalProgram x, int i, int sense, int right, int... factors) {
        for (int j = 0; j < factors.length; j++) {
            x.coefficient(i, j, factors[j]);
        }
        x.row(i, sense, right);
    }

    private static String fraction(long above, long below) {
        return above + "/" + below;
    }

    static String value(RationalProgram x) {
        return fraction(x.value(0), x.value(1));
    }

    static String point(RationalProgram x, int n) {
        List<String> told = new ArrayList<>();
        for (int j = 0; j < n; j++) {
            told.add(fraction(x.point(j, 0), x.point(j, 1)));
        }
        return String.join(" ", told);
    }

    static String range(RationalProgram x, int j, boolean high) {
        return fraction(x.range(j, high, 0), x.range(j, high, 1));
    }

    /** Every corner as t:V. */
    static String corners(RationalProgram x) {
        List<String> told = new ArrayList<>();
        int count = x.corners();
        for (int k = 0; k < count; k++) {
            told.add(fraction(x.corner(k, 0), x.corner(k, 1)) + ":" + fraction(x.corner(k, 2), x.corner(k, 3)));
        }
        return String.join(" ", told);
    }

    /** All that can be asked of a program with n variables and m rows. */
    static String everything(RationalProgram x, int n, int m) {
        StringBuilder told = new StringBuilder();
        told.append(x.solve()).append('|').append(Check.told(() -> value(x)));
        told.append('|').append(Check.told(() -> point(x, n)));
        for (int j = 0; j < n; j++) {
            int at = j;
            told.append('|').append(Check.told(() -> range(x, at, false)));
            told.append('|').append(Check.told(() -> range(x, at, true)));
        }
        for (int i = 0; i < m; i++) {
            int at = i;
            told.append('|').append(Check.told(() -> x.tight(at)));
        }
        told.append('|').append(Check.told(x::conflict)).append('|').append(corners(x));
        return told.toString();
    }
}
