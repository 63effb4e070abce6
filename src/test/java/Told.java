import java.lang.reflect.InvocationTargetException;
import java.lang.reflect.Method;

/** Calls that are told as texts, as DOC.md and README.md write them: {@code saw(0, 4, 0)}. */
final class Told {
    private Told() {
    }

    /** The answer as a text, or "throws " and the name of the exception. */
    static String answer(SawnIce x, String name, String arguments) {
        if (arguments.startsWith("\"")) {
            return typed(x, name, arguments.substring(1, arguments.length() - 1));
        }
        String[] words = arguments.isBlank() ? new String[0] : arguments.split(", ");
        Method method = methodOf(name);
        Class<?>[] types = method.getParameterTypes();
        if (types.length != words.length) {
            return name + " takes " + types.length + " arguments";
        }
        Object[] values = new Object[words.length];
        for (int i = 0; i < words.length; i++) {
            values[i] = valueOf(types[i], words[i]);
        }
        return invoked(x, method, values);
    }

    /** A method name with a text stands for the calls with its characters, one by one. */
    private static String typed(SawnIce x, String name, String text) {
        String last = "";
        for (int i = 0; i < text.length(); i++) {
            last = invoked(x, methodOf(name), text.charAt(i));
        }
        return last;
    }

    private static Object valueOf(Class<?> type, String word) {
        if (type == boolean.class) {
            return Boolean.valueOf(word);
        }
        return type == char.class ? (Object) word.charAt(1) : (Object) Integer.valueOf(word);
    }

    private static String invoked(SawnIce x, Method method, Object... values) {
        try {
            return String.valueOf(method.invoke(x, values));
        } catch (InvocationTargetException e) {
            return "throws " + e.getCause().getClass().getSimpleName();
        } catch (IllegalAccessException e) {
            throw new IllegalStateException(e);
        }
    }

    private static Method methodOf(String name) {
        for (Method m : SawnIce.class.getMethods()) {
            if (m.getName().equals(name) && m.getDeclaringClass() == SawnIce.class) {
                return m;
            }
        }
        throw new IllegalStateException("no method " + name);
    }
}
