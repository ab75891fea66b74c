import java.io.IOException;
import java.nio.file.Files;
import java.nio.file.Path;
import java.util.ArrayList;
import java.util.List;
import java.util.regex.Matcher;
import java.util.regex.Pattern;

/** README.md: each line of the use that it shows answers what stands behind it. */
public final class ReadmeTest {
    private static final Check CHECK = new Check("ReadmeTest");
    private static final Pattern LINE = Pattern.compile("(?:int (\\w+) = )?trees\\.(\\w+)\\((.*?)\\); +// ([^ :,]+).*");

    private final BookTrees trees;
    private final List<String> names = new ArrayList<>();
    private final List<Integer> values = new ArrayList<>();

    private ReadmeTest(BookTrees trees) {
        this.trees = trees;
    }

    public static void main(String[] args) throws IOException {
        List<String> lines = Files.readAllLines(Path.of("README.md"));
        int from = lines.indexOf("```java");
        CHECK.due("the use begins with a new object", lines.get(from + 1).startsWith("BookTrees trees = new BookTrees(100);"), true);
        ReadmeTest use = new ReadmeTest(new BookTrees(100));
        int asked = 0;
        for (int i = from + 2; !lines.get(i).equals("```"); i++) {
            if (!lines.get(i).isBlank()) {
                use.ask(lines.get(i));
                asked++;
            }
        }
        CHECK.due("the use shows calls", asked > 20, true);
        CHECK.due("the command that runs the tests stands there", lines.contains(".ci/run"), true);
        CHECK.end();
    }

    private void ask(String line) {
        Matcher parts = LINE.matcher(line);
        if (!parts.matches()) {
            CHECK.due("a call and its answer", line, "trees.call(..); // answer");
            return;
        }
        int[] arguments = new int[3];
        String[] written = parts.group(3).isEmpty() ? new String[0] : parts.group(3).split(", ");
        for (int i = 0; i < written.length; i++) {
            arguments[i] = value(written[i]);
        }
        String got = Calls.answer(trees, parts.group(2), arguments[0], arguments[1], arguments[2]);
        if (parts.group(1) != null) {
            names.add(parts.group(1));
            values.add(Integer.parseInt(got));
        }
        CHECK.due(line, got, due(parts.group(4), got));
    }

    private int value(String written) {
        return names.contains(written) ? values.get(names.indexOf(written)) : Integer.parseInt(written);
    }

    /** A call whose answer is not shown by a number, a constant or a name is told with words. */
    private String due(String shown, String got) {
        if (names.contains(shown)) {
            return "" + value(shown);
        }
        return switch (shown) {
            case "BookTrees.GONE" -> "" + BookTrees.GONE;
            case "BookTrees.BADLY" -> "" + BookTrees.BADLY;
            case "BookTrees.NONE" -> "" + BookTrees.NONE;
            case "BookTrees.CUT" -> "" + BookTrees.CUT;
            default -> shown.matches("-?\\d+|true") ? shown : got.startsWith("Illegal") ? "an answer" : got;
        };
    }
}
