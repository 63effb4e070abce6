import java.io.IOException;
import java.nio.file.Files;
import java.nio.file.Path;

/** The document: a test names the sentence that it is about, which must stand there word by word. */
final class Doc {
    private static final String TEXT = text();

    private Doc() {
    }

    static void whatItIs(String sentence) {
        says("What it is", sentence);
    }

    static void terms(String sentence) {
        says("Terms", sentence);
    }

    static void promise(int number, String sentence) {
        says("Promise " + number, sentence);
    }

    /** What stands in a section between two texts. */
    static String between(String section, String from, String to) {
        String part = partOf(section);
        int start = part.indexOf(from);
        int end = part.indexOf(to, Math.max(start, 0));
        return start < 0 || end < 0 ? "" : part.substring(start + from.length(), end);
    }

    static String section(String name) {
        return partOf(name);
    }

    private static void says(String section, String sentence) {
        Check.about(section + ", \"" + sentence + "\"");
        Check.is("the document says so", partOf(section).contains(sentence), true);
    }

    private static String partOf(String section) {
        for (String part : TEXT.split("## ")) {
            if (part.startsWith(section + ":") || part.startsWith(section + " ")) {
                return part;
            }
        }
        return "";
    }

    private static String text() {
        try {
            return Files.readString(Path.of("../shared/DOC.md")).replaceAll("\\s+", " ");
        } catch (IOException e) {
            throw new IllegalStateException(e);
        }
    }
}
