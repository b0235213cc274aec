import java.io.IOException;
import java.nio.file.Files;
import java.nio.file.Path;
import java.util.ArrayList;
import java.util.List;

/** The example of README.md: its rows are those below, and each call answers what its comment tells. */
public final class ReadmeTest {
    private static final List<String> CALLS = new ArrayList<>();

    public static void main(String[] args) throws IOException {
        for (String line : Files.readAllLines(Path.of("README.md"))) {
            if (line.startsWith("x.")) {
                CALLS.add(line);
            }
        }
        Bench x = new Bench(1);
        answers("x.port(0, true)", x.port(0, true));
        answers("x.greeting(0, 2, true)", x.greeting(0, 2, true));
        answers("x.own(77)", x.own(77));
        answers("x.next()", x.next());
        answers("x.message(0)", x.message(0));
        answers("x.message(2)", x.message(2));
        answers("x.next()", x.next());
        answers("x.thanks(0, 2, 1, 1)", x.thanks(0, 2, 1, 1));
        answers("x.advert(0, 2, 9, 5, 33)", x.advert(0, 2, 9, 5, 33));
        answers("x.next()", x.next());
        Check.same("x.next(): a thanks", x.message(0), 2);
        answers("x.run(20)", x.run(20));
        answers("x.next()", x.next());
        Check.same("x.next(): a greeting", x.message(0), 1);
        answers("x.named()", x.named());
        Check.same("rows of README.md that are left", CALLS.size(), 0);
        Check.end("ReadmeTest");
    }

    /** The next row of README.md is this call, and its comment begins with this answer. */
    private static void answers(String call, Object got) {
        String row = CALLS.isEmpty() ? "" : CALLS.remove(0);
        Check.same(call + ": the row is its own", row.startsWith(call + ";"), true);
        int comment = row.indexOf("// ");
        int colon = row.indexOf(':', Math.max(comment, 0));
        boolean told = comment >= 0 && colon > comment;
        Check.same(call, got.toString(), told ? row.substring(comment + 3, colon) : "not told in README.md");
    }
}
