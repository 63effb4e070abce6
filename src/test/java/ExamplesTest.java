import java.util.regex.Matcher;
import java.util.regex.Pattern;

/** The document's examples, call by call as they stand there. */
public final class ExamplesTest {
    private static final Pattern EXAMPLE = Pattern.compile("([A-Z][^:.]*): ((?:\\w+\\([^)]*\\) -> [^;]+?(?:; |\\. ))+)");
    private static final Pattern CALL = Pattern.compile("(\\w+)\\(([^)]*)\\) -> ([^;]+?)(?:; |\\. )");

    public static void main(String[] args) {
        int calls = 0;
        int examples = 0;
        Matcher example = EXAMPLE.matcher(Doc.between("Terms", "Examples. ", "Ahead of the calls"));
        while (example.find()) {
            examples++;
            Check.about("Example: " + example.group(1));
            calls += runExample(example.group(2));
        }
        Check.is("examples that were found", examples, 3);
        Check.is("calls that were found", calls, 36);
        Check.end("ExamplesTest");
    }

    private static int runExample(String text) {
        SawnIce x = new SawnIce();
        int calls = 0;
        Matcher call = CALL.matcher(text);
        while (call.find()) {
            calls++;
            String what = call.group(1) + "(" + call.group(2) + ")";
            Check.is(what, Told.answer(x, call.group(1), call.group(2)), call.group(3));
        }
        return calls;
    }
}
