import java.io.File;
import java.nio.file.Files;
import java.nio.file.Path;
import java.util.ArrayList;
import java.util.List;
import java.util.Set;
import java.util.TreeSet;
import java.util.regex.Matcher;
import java.util.regex.Pattern;

/** README.md: its example, its calls with what they throw, its reasons, its orders and its list of tests. */
public final class ReadmeTest {
    private static final Pattern CALL = Pattern.compile("public ([a-z]+ \\w+\\([^)]*\\))(?: throws ([\\w, ]+))?;");
    private static final Pattern STEP = Pattern.compile(
            "for \\(char c : (\".*\")\\.toCharArray\\(\\)\\) palace\\.append\\(c\\);"
            + "|palace\\.(\\w+)\\(([^)]*)\\); +// (throws \\w+|[^:\\n]+)");
    private static final Pattern ORDER = Pattern.compile("`(\\w+)\\([^)]*\\)`[^|]*\\| `(\\S+)`");

    public static void main(String[] args) throws Exception {
        String page = Files.readString(Path.of("README.md"));
        example(page);
        calls(page);
        orders(page);
        reasons(page);
        tests(page);
        Check.end("ReadmeTest");
    }

    private static String between(String page, String from, String to) {
        int start = page.indexOf(from);
        int end = page.indexOf(to, start + from.length());
        return start < 0 || end < 0 ? "" : page.substring(start + from.length(), end);
    }

    private static void example(String page) {
        Check.about("README.md, the example");
        String[] lines = between(page, "```java\n", "```").split("\n");
        Check.is("first line", lines[0], "SawnIce palace = new SawnIce();");
        SawnIce x = new SawnIce();
        for (int i = 1; i < lines.length; i++) {
            Matcher step = STEP.matcher(lines[i]);
            if (!step.lookingAt()) {
                Check.is("a call or a text", lines[i], "");
            } else if (step.group(1) != null) {
                Told.answer(x, "append", step.group(1));
            } else {
                Check.is(lines[i], Told.answer(x, step.group(2), step.group(3)), step.group(4));
            }
        }
    }

    /** Each call of the face has a row, which names just the exceptions of the face, in their order. */
    private static void calls(String page) {
        Check.about("README.md, the calls");
        Check.is("the constructor", page.contains("`public SawnIce()`"), true);
        List<String> due = new ArrayList<>();
        Matcher call = CALL.matcher(Doc.section("The public face"));
        while (call.find()) {
            due.add(call.group(1) + " throws " + (call.group(2) == null ? "" : call.group(2)));
        }
        List<String> got = new ArrayList<>();
        for (String row : between(page, "## The calls\n", "\n## ").split("\n")) {
            String[] cells = row.split("\\|", -1);
            if (cells.length == 5 && cells[1].startsWith(" `")) {
                List<String> thrown = new ArrayList<>();
                Matcher m = Pattern.compile("`(\\w+Exception)`").matcher(cells[3]);
                while (m.find()) {
                    thrown.add(m.group(1));
                }
                got.add(cells[1].trim().replace("`", "") + " throws " + String.join(", ", thrown));
            }
        }
        Check.is("calls of the document", due.size(), 31);
        Check.is("calls", got, due);
    }

    /** Each order's example has no error, whether it can be carried out or not. */
    private static void orders(String page) {
        Check.about("README.md, the orders");
        String part = between(page, "## Texts\n", "\n## ");
        StringBuilder names = new StringBuilder();
        Matcher order = ORDER.matcher(part);
        while (order.find()) {
            SawnIce x = new SawnIce();
            Check.outcome(() -> Palaces.read(x, order.group(2)));
            Check.is("no error in " + order.group(2), x.errorPosition(), -1);
            names.append(order.group(1)).append(' ');
        }
        Check.is("orders", names.toString(), "saw lay pass visit heat ");
    }

    private static void reasons(String page) {
        Check.about("README.md, the reasons");
        int reason = 0;
        for (String row : between(page, "## Reasons\n", "\n## ").split("\n")) {
            String[] cells = row.split(" *\\| *");
            if (cells.length == 4 && cells[1].matches("[0-9]")) {
                reason++;
                Check.is("number", cells[1], String.valueOf(reason));
                Doc.terms(reason + ", " + cells[2] + ": " + cells[3]);
            }
        }
        Check.is("reasons", reason, 9);
    }

    private static void tests(String page) {
        Check.about("README.md, the tests");
        Set<String> due = new TreeSet<>();
        for (File file : new File("src/test/java").listFiles()) {
            if (file.getName().endsWith("Test.java")) {
                due.add(file.getName().replace(".java", ""));
            }
        }
        Set<String> got = new TreeSet<>();
        Matcher m = Pattern.compile("`(\\w+Test)`").matcher(page.substring(page.indexOf("## Tests")));
        while (m.find()) {
            got.add(m.group(1));
        }
        Check.is("tests", got, due);
        Check.is("how to run them", page.contains("\n.ci/run\n"), true);
    }
}
