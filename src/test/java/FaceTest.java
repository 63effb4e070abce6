import java.lang.reflect.Constructor;
import java.lang.reflect.Field;
import java.lang.reflect.Method;
import java.lang.reflect.Modifier;
import java.nio.file.Files;
import java.nio.file.Path;
import java.util.ArrayList;
import java.util.List;
import java.util.Set;
import java.util.TreeSet;
import java.util.regex.Matcher;
import java.util.regex.Pattern;

/** The public face, and what LANGUAGE.md rules out as far as words and reflection show it. */
public final class FaceTest {
    private static final String[] FACE = {
        "int heat(int,int) IndexOutOfBoundsException IllegalArgumentException",
        "int visit(int) IllegalArgumentException",
        "int saw(int,int,int) IndexOutOfBoundsException IllegalArgumentException UnsupportedOperationException",
        "int lay(int,int,int) IndexOutOfBoundsException UnsupportedOperationException",
        "int take(int) IndexOutOfBoundsException UnsupportedOperationException",
        "int pass(int) IllegalArgumentException",
        "int blockOf(int,int) IndexOutOfBoundsException IllegalArgumentException",
        "float mass(int) IndexOutOfBoundsException NoSuchElementException",
        "int load(int,boolean) IndexOutOfBoundsException NoSuchElementException",
        "int loadAgain(int) IndexOutOfBoundsException NoSuchElementException",
        "int at(int,int) IndexOutOfBoundsException",
        "int height(int) IndexOutOfBoundsException",
        "boolean isShady(int,int) IndexOutOfBoundsException NoSuchElementException",
        "char sign(int) IndexOutOfBoundsException",
        "int rooms(int,int) IndexOutOfBoundsException IllegalArgumentException",
        "int inRack(int,int) IndexOutOfBoundsException",
        "int worst() NoSuchElementException",
        "int goneIn() NoSuchElementException",
        "int massBits(int,int) IndexOutOfBoundsException IllegalArgumentException",
        "int safe() NoSuchElementException",
        "int left(int) IllegalArgumentException",
        "int append(char) IllegalStateException",
        "int read() IllegalArgumentException UnsupportedOperationException",
        "int errorPosition()",
        "int refusal(boolean) NoSuchElementException",
        "int account(int) IllegalArgumentException",
        "boolean isWell()",
        "long meanBits() ArithmeticException",
        "int undo() IllegalStateException",
        "int save()",
        "int restore() IllegalStateException"};

    private static final String[] RULED_OUT = {"\\bimport (?!java\\.util\\.NoSuchElementException;)", "^package\\b",
        "->", "::", "\\bfinally\\b", "\\bcatch\\b", "\\bsynchronized\\b", "\\bassert\\b", "\\bvar\\b", "Exact\\(",
        "\\bFloat\\.", "\\bDouble\\.", "\\bObject\\b", "\\bthrow (?!new \\w+\\(\\);)", "\\bwhile\\b",
        "Math\\.(?!max|min|floorMod)", "System\\.(?!arraycopy)", "\\bstatic \\{", "\" \\+|\\+ \"", "%(?! CHANGES)"};

    public static void main(String[] args) throws Exception {
        face();
        members();
        words();
        Check.end("FaceTest");
    }

    private static void face() {
        Set<String> due = new TreeSet<>(List.of(FACE));
        Set<String> got = new TreeSet<>();
        for (Method m : SawnIce.class.getDeclaredMethods()) {
            if (Modifier.isPublic(m.getModifiers())) {
                got.add(told(m));
            }
        }
        Check.is("the face", got, due);
        Constructor<?>[] constructors = SawnIce.class.getDeclaredConstructors();
        Check.is("one constructor", constructors.length, 1);
        Check.is("without arguments", constructors[0].getParameterCount(), 0);
        Check.is("public", Modifier.isPublic(constructors[0].getModifiers()), true);
        Check.is("final", Modifier.isFinal(SawnIce.class.getModifiers()), true);
    }

    private static String told(Method m) {
        List<String> types = new ArrayList<>();
        for (Class<?> type : m.getParameterTypes()) {
            types.add(type.getName());
        }
        StringBuilder s = new StringBuilder();
        s.append(m.getReturnType().getName()).append(' ').append(m.getName());
        s.append('(').append(String.join(",", types)).append(')');
        for (Class<?> thrown : m.getExceptionTypes()) {
            s.append(' ').append(thrown.getSimpleName());
        }
        return s.toString();
    }

    private static void members() {
        Set<String> names = new TreeSet<>();
        for (Method m : SawnIce.class.getDeclaredMethods()) {
            if (Modifier.isPublic(m.getModifiers())) {
                names.add(m.getName());
            }
        }
        for (Field f : SawnIce.class.getDeclaredFields()) {
            Check.is("rule 1, private: " + f.getName(), Modifier.isPrivate(f.getModifiers()), true);
        }
        for (Method m : SawnIce.class.getDeclaredMethods()) {
            boolean isFace = Modifier.isPublic(m.getModifiers());
            Check.is("rule 1, private: " + m.getName(), isFace || Modifier.isPrivate(m.getModifiers()), true);
            Check.is("rule 1, another name: " + m.getName(), isFace || !names.contains(m.getName()), true);
        }
        Class<?>[] inside = SawnIce.class.getDeclaredClasses();
        Check.is("rule 11, some twelve classes", inside.length <= 11, true);
        for (Class<?> one : inside) {
            int fields = 0;
            for (Field f : one.getDeclaredFields()) {
                boolean isStatic = Modifier.isStatic(f.getModifiers());
                fields += isStatic ? 0 : 1;
                Check.is("rule 5, final: " + f.getName(), !isStatic || Modifier.isFinal(f.getModifiers()), true);
            }
            Check.is("rule 11, some twenty fields: " + one.getName(), fields <= 20, true);
            Check.is("rule 2, static: " + one.getName(), Modifier.isStatic(one.getModifiers()), true);
            Check.is("rule 1, not public: " + one.getName(), Modifier.isPublic(one.getModifiers()), false);
            for (Method m : one.getDeclaredMethods()) {
                Check.is("rule 11, seven parameters: " + m.getName(), m.getParameterCount() <= 7, true);
            }
        }
    }

    private static void words() throws Exception {
        String source = Files.readString(Path.of("src/main/java/SawnIce.java"))
                .replaceAll("(?s)/\\*.*?\\*/", "").replaceAll("//[^\n]*", "");
        for (String word : RULED_OUT) {
            Matcher m = Pattern.compile(word, Pattern.MULTILINE).matcher(source);
            Check.is("ruled out: " + word, m.find() ? m.group() : "", "");
        }
        int longest = 0;
        int start = 0;
        String[] lines = source.split("\n");
        for (int i = 0; i < lines.length; i++) {
            if (lines[i].matches("( {4}| {8})\\w.*\\) ?.*\\{") && !lines[i].contains(" class ")) {
                start = i;
            }
            if (lines[i].matches("( {4}| {8})\\}")) {
                longest = Math.max(longest, i - start + 1);
            }
        }
        Check.is("rule 11, some sixty lines: " + longest, longest <= 60, true);
    }
}
