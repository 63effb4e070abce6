import java.lang.reflect.InvocationTargetException;
import java.lang.reflect.Method;
import java.lang.reflect.Modifier;
import java.nio.file.Files;
import java.nio.file.Path;
import java.util.ArrayList;
import java.util.List;
import java.util.Random;
import java.util.TreeSet;

/** Each exception is one that the face names for its call, and comes from a throw statement of the program. */
public final class ThrownTest {
    private static final int RUNS = 300;
    private static final int CALLS = 512;
    private static final int[] FAR = {Integer.MIN_VALUE, Integer.MIN_VALUE + 1, -2147483642, -129, -49, 49, 60, 61, 96,
        97, 129, 357913942, 715827883, 2147483642, Integer.MAX_VALUE - 1, Integer.MAX_VALUE};
    private static final String SIGNS = "slhvtslhvt@@//==--;;;0123456789 x\u0000\u00ff\uffff";

    private static final String[] ORDERS = {"s01@0", "s12@1", "s03@1", "l0@0/0", "l1@10/0", "l3@5/1", "h2", "v3", "t9=-2"};

    private static List<String> lines;
    private static final TreeSet<String> seen = new TreeSet<>();

    public static void main(String[] args) throws Exception {
        lines = Files.readAllLines(Path.of("src/main/java/SawnIce.java"));
        List<Method> face = new ArrayList<>();
        for (Method m : SawnIce.class.getDeclaredMethods()) {
            if (Modifier.isPublic(m.getModifiers())) {
                face.add(m);
            }
        }
        face.sort((a, b) -> a.getName().compareTo(b.getName()));
        for (int run = 0; run < RUNS; run++) {
            run(face, new Random(run));
        }
        int named = 0;
        for (Method m : face) {
            for (Class<?> type : m.getExceptionTypes()) {
                named++;
                String what = m.getName() + " throws " + type.getSimpleName();
                Check.is(what + ", seen in a run", seen.contains(what), true);
            }
        }
        Check.is("all that the face names, and no more", seen.size(), named);
        Check.end("ThrownTest");
    }

    /** Some runs go far out with their arguments. */
    private static void run(List<Method> face, Random dice) throws IllegalAccessException {
        SawnIce x = new SawnIce();
        boolean isFar = dice.nextInt(3) == 0;
        for (int call = 0; call < CALLS; call++) {
            Method m = face.get(dice.nextInt(face.size()));
            if (dice.nextInt(4) == 0 && call < 200) {
                sawAndLay(x, dice);
                call += 2;
            } else if (dice.nextInt(40) == 0 && call < 440) {
                call += type(face, x, dice);
            } else {
                invoke(x, m, arguments(m, dice, isFar));
            }
        }
    }

    /** Reads three orders, or signs of any kind that find no space at last; the answer is how many calls that takes. */
    private static int type(List<Method> face, SawnIce x, Random dice) throws IllegalAccessException {
        StringBuilder text = new StringBuilder();
        if (dice.nextInt(4) == 0) {
            for (int i = 0; i < 61; i++) {
                text.append(SIGNS.charAt(dice.nextInt(SIGNS.length())));
            }
        } else {
            Check.outcome(() -> x.read());
            text.append(any(ORDERS, dice)).append(';').append(any(ORDERS, dice)).append(';').append(any(ORDERS, dice));
        }
        for (int i = 0; i < text.length(); i++) {
            invoke(x, named(face, "append"), new Object[] {text.charAt(i)});
        }
        invoke(x, named(face, "read"), new Object[0]);
        return text.length() + 1;
    }

    private static String any(String[] texts, Random dice) {
        return texts[dice.nextInt(texts.length)];
    }

    private static Method named(List<Method> face, String name) {
        for (Method m : face) {
            if (m.getName().equals(name)) {
                return m;
            }
        }
        throw new IllegalStateException("no method " + name);
    }

    private static void sawAndLay(SawnIce x, Random dice) {
        int kind = dice.nextInt(2);
        int length = 1 + dice.nextInt(6);
        Object block = Check.outcome(() -> x.saw(kind, length, kind));
        if (block instanceof Integer) {
            int column = dice.nextInt(13 - length);
            Check.outcome(() -> x.lay((int) block, column, x.height(column) % 8));
        }
    }

    private static Object[] arguments(Method m, Random dice, boolean isFar) {
        Class<?>[] types = m.getParameterTypes();
        Object[] values = new Object[types.length];
        for (int i = 0; i < types.length; i++) {
            if (types[i] == boolean.class) {
                values[i] = dice.nextBoolean();
            } else if (types[i] == char.class) {
                values[i] = SIGNS.charAt(dice.nextInt(SIGNS.length()));
            } else {
                boolean isOut = isFar && dice.nextInt(3) == 0;
                values[i] = isOut ? FAR[dice.nextInt(FAR.length)] : dice.nextInt(dice.nextInt(3) == 0 ? 45 : 9) - 1;
            }
        }
        return values;
    }

    private static void invoke(SawnIce x, Method m, Object[] values) throws IllegalAccessException {
        try {
            m.invoke(x, values);
        } catch (InvocationTargetException e) {
            look(m, e.getCause());
        }
    }

    private static void look(Method m, Throwable thrown) {
        String what = m.getName() + " throws " + thrown.getClass().getSimpleName();
        boolean isNamed = false;
        for (Class<?> type : m.getExceptionTypes()) {
            isNamed |= type == thrown.getClass();
        }
        Check.is(what + ", named by the face", isNamed, true);
        StackTraceElement top = thrown.getStackTrace()[0];
        boolean isOwn = top.getFileName().equals("SawnIce.java") && top.getLineNumber() > 0;
        String line = isOwn ? lines.get(top.getLineNumber() - 1).trim() : top.toString();
        Check.is(what + ", by", line, "throw new " + thrown.getClass().getSimpleName() + "();");
        seen.add(what);
    }
}
