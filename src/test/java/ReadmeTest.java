import java.io.IOException;
import java.nio.file.Files;
import java.nio.file.Path;
import java.util.List;

/** The example of README.md, line by line: each call stands there with the answer that it gives. */
public final class ReadmeTest {
    private static final Check CHECK = new Check();

    private final List<String> lines;
    private int at = 0;

    private ReadmeTest(List<String> lines) {
        this.lines = lines;
    }

    public static void main(String[] args) throws IOException {
        ReadmeTest test = new ReadmeTest(Files.readAllLines(Path.of("README.md")));
        RationalProgram x = new RationalProgram();
        test.changes(x);
        test.answers(x);
        test.otherStates(x);
        CHECK.finish();
    }

    private void changes(RationalProgram x) {
        changed("x.begin(2, 2);", () -> x.begin(2, 2));
        changed("x.coefficient(0, 0, 3);", () -> x.coefficient(0, 0, 3));
        changed("x.coefficient(0, 1, 1);", () -> x.coefficient(0, 1, 1));
        changed("x.row(0, 0, 5);", () -> x.row(0, 0, 5));
        changed("x.coefficient(1, 1, 1);", () -> x.coefficient(1, 1, 1));
        changed("x.row(1, 0, 1);", () -> x.row(1, 0, 1));
        changed("x.drift(1, 2);", () -> x.drift(1, 2));
        changed("x.want(0, 1);", () -> x.want(0, 1));
        changed("x.want(1, 1);", () -> x.want(1, 1));
    }

    private void answers(RationalProgram x) {
        answered("x.solve();", 0, x::solve);
        answered("x.value(0);", 7, () -> x.value(0));
        answered("x.value(1);", 3, () -> x.value(1));
        answered("x.point(0, 0);", 4, () -> x.point(0, 0));
        answered("x.point(0, 1);", 3, () -> x.point(0, 1));
        answered("x.range(0, true, 0);", 5, () -> x.range(0, true, 0));
        answered("x.range(0, true, 1);", 3, () -> x.range(0, true, 1));
        answered("x.tight(0);", true, () -> x.tight(0));
        answered("x.corners();", 2, x::corners);
        answered("x.corner(1, 0);", 1, () -> x.corner(1, 0));
        answered("x.corner(1, 1);", 1, () -> x.corner(1, 1));
        answered("x.corner(1, 2);", 11, () -> x.corner(1, 2));
        answered("x.corner(1, 3);", 3, () -> x.corner(1, 3));
    }

    private void otherStates(RationalProgram x) {
        changed("x.row(0, 2, 5);", () -> x.row(0, 2, 5));
        answered("x.solve();", 2, x::solve);
        changed("x.row(1, 0, -1);", () -> x.row(1, 0, -1));
        answered("x.solve();", 1, x::solve);
        answered("x.conflict();", 2, x::conflict);
    }

    private void changed(String call, Check.Change change) {
        CHECK.due(call + " comes next in README.md", true, () -> findNext().startsWith(call));
        CHECK.done(call, change);
    }

    private void answered(String call, Object due, Check.Call asked) {
        CHECK.due(call + " comes next in README.md with its answer", true,
                () -> findNext().matches("\\Q" + call + "\\E *// " + due + "\\b.*"));
        CHECK.due(call, due, asked);
    }

    /** The next line that holds a call of x. */
    private String findNext() {
        while (at < lines.size()) {
            String line = lines.get(at);
            at++;
            if (line.startsWith("x.")) {
                return line;
            }
        }
        return "";
    }
}
