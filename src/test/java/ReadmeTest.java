import java.io.IOException;
import java.nio.file.Files;
import java.nio.file.Path;
import java.util.ArrayList;
import java.util.List;

/** The example of README.md: it is the one that runs here, and the answers beside it are right. */
public final class ReadmeTest extends Checks {

    private static final String HERE = "src/test/java/ReadmeTest.java";

    private static List<String> lines(String path, String from, String to) {
        List<String> found = new ArrayList<>();
        boolean isInside = false;
        try {
            for (String line : Files.readAllLines(Path.of(path))) {
                if (isInside && line.trim().equals(to)) return found;
                if (isInside) found.add(line);
                isInside |= line.trim().equals(from);
            }
        } catch (IOException e) {
            throw new IllegalStateException(e);
        }
        throw new IllegalStateException("no " + from + " in " + path);
    }

    private static List<String> example() {
        return lines("README.md", "```java", "```");
    }

    private static String code(String line) {
        int comment = line.indexOf("//");
        return (comment < 0 ? line : line.substring(0, comment)).trim();
    }

    /** What README.md says that a variable of the example is. */
    private static String told(String variable) {
        for (String line : example()) {
            if (line.contains(" " + variable + " = ")) return line.substring(line.indexOf("//") + 3, line.lastIndexOf(": "));
        }
        return "nothing";
    }

    static void theExampleIsTheOneHere() {
        List<String> there = new ArrayList<>(), here = new ArrayList<>();
        for (String line : example()) there.add(code(line));
        for (String line : lines(HERE, "// begin", "// end")) here.add(code(line));
        due("the example", there, here);
    }

    static void theAnswersBesideIt() {
        // begin
        Cachebench bench = new Cachebench();
        bench.setCache(0, Cachebench.LAST_USE, 3, 0, 0);
        for (char c : "3(abc)d".toCharArray()) {
            bench.type(c);
        }
        int made = bench.run();
        int hits = bench.count(0, 0);
        int best = bench.hits(Cachebench.NONE, 2);
        int goes = bench.victim(0, 4);
        double share = bench.hitShare(0);
        int left = bench.undo();
        // end
        due("made", told("made"), "" + made);
        due("hits", told("hits"), "" + hits);
        due("best", told("best"), "" + best);
        due("goes", told("goes"), "" + goes);
        due("share", told("share"), "" + share);
        due("left", told("left"), "" + left);
        due("the requests", bench.rowLength(), 0);
    }

    public static void main(String[] args) {
        runAll(ReadmeTest.class);
    }
}
