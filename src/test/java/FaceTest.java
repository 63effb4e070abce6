import java.lang.reflect.Constructor;
import java.lang.reflect.Field;
import java.lang.reflect.Method;
import java.lang.reflect.Modifier;
import java.nio.file.Files;
import java.nio.file.Path;
import java.util.ArrayList;
import java.util.List;
import java.util.Set;
import java.util.TreeSet;
import java.util.regex.Matcher;
import java.util.regex.Pattern;

/** The public face, and what LANGUAGE.md rules out as far as words and reflection show it. */
public final class FaceTest {
    private static final Pattern CALL = Pattern.compile("public ([a-z]+ \\w+\\([^)]*\\)(?: throws [\\w, ]+)?);");
    private static final Pattern GROUP = Pattern.compile(
            "Ahead of the calls ((?:`\\w+`(?:, )?)+) the interface says: ([^.]+)\\.");
    private static final Pattern GROUP_OR_CALL = Pattern.compile("\n    (?:// (.*)|public [a-z]+ (\\w+)\\(.*)");

    private static final String[] RULED_OUT = {"\\bimport (?!java\\.util\\.NoSuchElementException;)", "^package\\b",
        "->", "::", "\\bfinally\\b", "\\bcatch\\b", "\\bsynchronized\\b", "\\bassert\\b", "\\bvar\\b", "Exact\\(",
        "\\bFloat\\.", "\\bDouble\\.", "\\bObject\\b", "\\bthrow (?!new \\w+\\(\\);)", "\\bwhile\\b",
        "Math\\.(?!max|min|floorMod)", "System\\.(?!arraycopy)", "\\bstatic \\{", "\" \\+|\\+ \"", "%(?! CHANGES)"};

    public static void main(String[] args) throws Exception {
        face();
        promises();
        groups();
        Check.about("LANGUAGE.md");
        members();
        words();
        Check.end("FaceTest");
    }

    /** The calls of the document's face, as "int heat(int hour, int temperature) throws ..". */
    private static List<String> callsOfTheDocument() {
        List<String> calls = new ArrayList<>();
        Matcher m = CALL.matcher(Doc.section("The public face"));
        while (m.find()) {
            calls.add(m.group(1));
        }
        return calls;
    }

    private static void face() throws Exception {
        String source = Files.readString(Path.of("src/main/java/SawnIce.java")).replaceAll("\\s+", " ");
        Set<String> due = new TreeSet<>();
        for (String call : callsOfTheDocument()) {
            Check.is("the source has " + call, source.contains(" public " + call + " { "), true);
            due.add(call.replaceAll("(int|boolean|char) \\w+([,)])", "$1$2"));
        }
        Check.is("calls in the document", due.size(), 31);
        Set<String> got = new TreeSet<>();
        for (Method m : SawnIce.class.getDeclaredMethods()) {
            if (Modifier.isPublic(m.getModifiers())) {
                got.add(told(m));
            }
        }
        Check.is("the face", got, due);
        Constructor<?>[] constructors = SawnIce.class.getDeclaredConstructors();
        Check.is("one constructor", constructors.length, 1);
        Check.is("without arguments", constructors[0].getParameterCount(), 0);
        Check.is("public", Modifier.isPublic(constructors[0].getModifiers()), true);
        Check.is("it throws nothing", constructors[0].getExceptionTypes().length, 0);
        Check.is("final", Modifier.isFinal(SawnIce.class.getModifiers()), true);
        Check.is("no package", SawnIce.class.getPackageName(), "");
        Check.is("no class above it", SawnIce.class.getSuperclass() == Object.class, true);
        Check.is("no interface", SawnIce.class.getInterfaces().length, 0);
    }

    /** Each promise from the second on is about one call of the face, in the order of the face. */
    private static void promises() {
        int promise = 2;
        for (String call : callsOfTheDocument()) {
            Doc.promise(promise, "`" + call + "`");
            promise++;
        }
        Check.is("promises", promise, 33);
    }

    /** The source has its calls in the order of the face, with the document's words ahead of each group. */
    private static void groups() throws Exception {
        List<String> due = new ArrayList<>();
        Matcher group = GROUP.matcher(Doc.section("Terms"));
        while (group.find()) {
            due.add(group.group(2) + ".");
            due.addAll(List.of(group.group(1).replace("`", "").split(", ")));
        }
        Check.is("five groups and 31 calls", due.size(), 36);
        List<String> got = new ArrayList<>();
        Matcher line = GROUP_OR_CALL.matcher(Files.readString(Path.of("src/main/java/SawnIce.java")));
        while (line.find()) {
            got.add(line.group(1) == null ? line.group(2) : line.group(1));
        }
        Check.is("the groups of the face", got, due);
    }

    private static String told(Method m) {
        List<String> types = new ArrayList<>();
        for (Class<?> type : m.getParameterTypes()) {
            types.add(type.getName());
        }
        StringBuilder s = new StringBuilder();
        s.append(m.getReturnType().getName()).append(' ').append(m.getName());
        s.append('(').append(String.join(", ", types)).append(')');
        List<String> thrown = new ArrayList<>();
        for (Class<?> type : m.getExceptionTypes()) {
            thrown.add(type.getSimpleName());
        }
        return s.append(thrown.isEmpty() ? "" : " throws ").append(String.join(", ", thrown)).toString();
    }

    private static void members() {
        Set<String> names = new TreeSet<>();
        for (Method m : SawnIce.class.getDeclaredMethods()) {
            if (Modifier.isPublic(m.getModifiers())) {
                names.add(m.getName());
            }
        }
        for (Field f : SawnIce.class.getDeclaredFields()) {
            Check.is("rule 1, private: " + f.getName(), Modifier.isPrivate(f.getModifiers()), true);
        }
        for (Method m : SawnIce.class.getDeclaredMethods()) {
            boolean isFace = Modifier.isPublic(m.getModifiers());
            Check.is("rule 1, private: " + m.getName(), isFace || Modifier.isPrivate(m.getModifiers()), true);
            Check.is("rule 1, another name: " + m.getName(), isFace || !names.contains(m.getName()), true);
        }
        Class<?>[] inside = SawnIce.class.getDeclaredClasses();
        Check.is("rule 11, some twelve classes", inside.length <= 11, true);
        for (Class<?> one : inside) {
            int fields = 0;
            for (Field f : one.getDeclaredFields()) {
                boolean isStatic = Modifier.isStatic(f.getModifiers());
                fields += isStatic ? 0 : 1;
                Check.is("rule 5, final: " + f.getName(), !isStatic || Modifier.isFinal(f.getModifiers()), true);
            }
            Check.is("rule 11, some twenty fields: " + one.getName(), fields <= 20, true);
            Check.is("rule 2, static: " + one.getName(), Modifier.isStatic(one.getModifiers()), true);
            Check.is("rule 1, not public: " + one.getName(), Modifier.isPublic(one.getModifiers()), false);
            for (Method m : one.getDeclaredMethods()) {
                Check.is("rule 11, seven parameters: " + m.getName(), m.getParameterCount() <= 7, true);
                boolean isOther = !Modifier.isPrivate(m.getModifiers()) || !names.contains(m.getName());
                Check.is("rule 1, another name: " + m.getName(), isOther, true);
            }
        }
    }

    private static void words() throws Exception {
        String source = Files.readString(Path.of("src/main/java/SawnIce.java"))
                .replaceAll("(?s)/\\*.*?\\*/", "").replaceAll("//[^\n]*", "");
        for (String word : RULED_OUT) {
            Matcher m = Pattern.compile(word, Pattern.MULTILINE).matcher(source);
            Check.is("ruled out: " + word, m.find() ? m.group() : "", "");
        }
        int longest = 0;
        int start = 0;
        String[] lines = source.split("\n");
        for (int i = 0; i < lines.length; i++) {
            if (lines[i].matches("( {4}| {8})\\w.*\\) ?.*\\{") && !lines[i].contains(" class ")) {
                start = i;
            }
            if (lines[i].matches("( {4}| {8})\\}")) {
                longest = Math.max(longest, i - start + 1);
            }
        }
        Check.is("rule 11, some sixty lines: " + longest, longest <= 60, true);
    }
}
