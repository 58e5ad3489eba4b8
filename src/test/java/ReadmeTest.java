import java.io.IOException;
import java.nio.file.Files;
import java.nio.file.Path;
import java.util.List;

/** The example of README.md answers what stands behind its calls; run it where README.md is. */
public final class ReadmeTest {
    private static final String TEXT = "sign o 0;sign s 1;sign add 2;var x;var y;"
        + "rule zero add(o,x)=x;rule more add(s(x),y)=s(add(x,y));";

    private static List<String> lines;
    private static int calls = 0;

    public static void main(String[] args) throws IOException {
        lines = Files.readAllLines(Path.of("README.md"));
        TermShelf shelf = new TermShelf();
        answers("text(n)", shelf.text(Due.fed(shelf, TEXT)));
        answers("query(n)", shelf.query(Due.fed(shelf, "add(s(o),s(o))")));
        answers("finding(0, 0)", shelf.finding(0, 0));
        answers("found(0, 0)", shelf.found(0, 0));
        answers("filled(1, 0, 0)", shelf.filled(1, 0, 0));
        answers("filled(1, 1, 0)", shelf.filled(1, 1, 0));
        answers("filled(1, 1, 1)", shelf.filled(1, 1, 1));
        answers("steps(0)", shelf.steps(0));
        answers("steps(1)", shelf.steps(1));
        answers("normal(0)", shelf.normal(0));
        answers("normal(1)", shelf.normal(1));
        answers("normal(2)", shelf.normal(2));
        answers("take(1)", shelf.take(1));
        answers("found(0, 1)", shelf.found(0, 1));
        answers("specific(0)", shelf.specific(0));
        answers("undo()", shelf.undo());
        answers("asked(-1)", shelf.asked(-1));
        long told = lines.stream().filter(line -> line.startsWith("shelf.")).count();
        Due.due("calls of the example", calls, told);
        Due.end("ReadmeTest");
    }

    private static void answers(String call, int got) {
        calls++;
        Due.due(call, got, toldOf(call));
    }

    /** The number behind the call in README.md, or one that no call answers. */
    private static int toldOf(String call) {
        for (String line : lines) {
            if (line.startsWith("shelf." + call + ";")) {
                String[] told = line.substring(line.indexOf("//") + 2).trim().split(" ");
                return Integer.parseInt(told[0]);
            }
        }
        return Integer.MIN_VALUE;
    }
}
