import java.lang.reflect.InvocationTargetException;
import java.lang.reflect.Method;

/**
 * Runs of calls on a new object, written a line a call:
 *
 * <pre>
 * addProp(1, 2) = 1                 the call answers 1
 * addProp(9, 2) = throws.IndexOutOfBoundsException
 * addProp(1, 3)                     the call throws nothing
 * type "leave"                      one call of type for each character, none throws
 * line = "2UR"                      the output line, by charAt, and its end
 * </pre>
 */
final class Script {
    private final int promise;
    private final StageBallet ballet = new StageBallet();

    private Script(int promise) {
        this.promise = promise;
    }

    static void run(int promise, String lines) {
        Script script = new Script(promise);
        for (String line : lines.split("\n")) {
            if (!line.isBlank()) {
                script.step(line.trim());
            }
        }
    }

    private void step(String line) {
        if (line.startsWith("type \"")) {
            typeAll(line.substring(6, line.length() - 1));
        } else if (line.startsWith("line = \"")) {
            readLine(line.substring(8, line.length() - 1));
        } else {
            int sign = line.indexOf(") = ");
            String call = sign < 0 ? line : line.substring(0, sign + 1);
            String got = answer(call);
            boolean threw = got.startsWith("throws.");
            String want = sign >= 0 ? line.substring(sign + 4) : threw ? "no exception" : got;
            Check.same(where(call), want, got);
        }
    }

    private void typeAll(String text) {
        for (char character : text.toCharArray()) {
            String got = Check.answer(() -> ballet.type(character));
            Check.same(where("type('" + character + "') throws"), "false",
                    String.valueOf(got.startsWith("throws.")));
        }
    }

    private void readLine(String text) {
        for (int i = 0; i < text.length(); i++) {
            int index = i;
            Check.same(where("charAt(" + i + ")"), String.valueOf(text.charAt(i)),
                    Check.answer(() -> ballet.charAt(index)));
        }
        Check.same(where("charAt(" + text.length() + ")"), "throws.IndexOutOfBoundsException",
                Check.answer(() -> ballet.charAt(text.length())));
    }

    private String where(String call) {
        return "promise " + promise + ": " + call;
    }

    private String answer(String call) {
        String name = call.substring(0, call.indexOf('('));
        String inside = call.substring(call.indexOf('(') + 1, call.lastIndexOf(')'));
        String[] parts = inside.isBlank() ? new String[0] : inside.split(", ");
        Object[] values = new Object[parts.length];
        for (int i = 0; i < parts.length; i++) {
            values[i] = value(parts[i]);
        }
        try {
            return String.valueOf(methodNamed(name).invoke(ballet, values));
        } catch (InvocationTargetException e) {
            return "throws." + e.getCause().getClass().getSimpleName();
        } catch (IllegalAccessException e) {
            throw new IllegalStateException(e);
        }
    }

    private static Object value(String part) {
        if (part.startsWith("'")) {
            return part.charAt(1);
        }
        return Integer.valueOf(part);
    }

    private static Method methodNamed(String name) {
        for (Method method : StageBallet.class.getMethods()) {
            if (method.getDeclaringClass() == StageBallet.class && method.getName().equals(name)) {
                return method;
            }
        }
        throw new IllegalArgumentException("no method " + name);
    }
}
