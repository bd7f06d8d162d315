import java.lang.reflect.InvocationTargetException;
import java.lang.reflect.Method;
import java.util.ArrayList;
import java.util.HashMap;
import java.util.List;
import java.util.Map;

/**
 * Runs of calls on a new object, written a line a call:
 *
 * <pre>
 * addProp(1, 2) = 1                 the call answers 1
 * addProp(9, 2) = throws.IndexOutOfBoundsException
 * addProp(1, 3)                     the call throws nothing
 * addMove(0, #65535)                a character by its number
 * type "leave"                      one call of type for each character, none throws
 * line = "2UR"                      the output line, by charAt, and its end
 * </pre>
 *
 * <p>After each refused call of such a run, the object is also compared with one that was not called,
 * since a call that throws changes nothing.
 */
final class Script {
    private record Call(Method method, Object[] values) {
    }

    private static final Map<String, Method> METHODS = methods();
    private static final Map<String, Call> CALLS = new HashMap<>();

    private final String name;
    final StageBallet ballet = new StageBallet();

    private Script(String name) {
        this.name = name;
    }

    static void run(int promise, String lines) {
        run("promise " + promise, lines);
    }

    static void run(String name, String lines) {
        Script script = new Script(name);
        List<String> earlier = new ArrayList<>();
        for (String raw : lines.split("\n")) {
            String line = raw.trim();
            if (!line.isEmpty()) {
                script.step(line);
                if (line.contains(") = throws.")) {
                    Twin.refusalChangesNothing(name, earlier, line);
                }
                earlier.add(line);
            }
        }
    }

    /** Makes the calls of the lines on a new object, whatever they answer. */
    static Script played(List<String> lines) {
        Script script = new Script("");
        for (String line : lines) {
            script.play(line);
        }
        return script;
    }

    /** Makes the call of a line, and returns its answer. */
    String play(String line) {
        if (line.startsWith("type \"")) {
            for (char character : textOf(line).toCharArray()) {
                Check.answer(() -> ballet.type(character));
            }
            return "";
        }
        return line.startsWith("line = \"") ? "" : answer(callOf(line));
    }

    static String callOf(String line) {
        int sign = line.indexOf(") = ");
        return sign < 0 ? line : line.substring(0, sign + 1);
    }

    static String dueOf(String line) {
        int sign = line.indexOf(") = ");
        return sign < 0 ? "" : line.substring(sign + 4);
    }

    private static String textOf(String line) {
        return line.substring(line.indexOf('"') + 1, line.length() - 1);
    }

    private void step(String line) {
        if (line.startsWith("type \"")) {
            typeAll(textOf(line));
        } else if (line.startsWith("line = \"")) {
            readLine(textOf(line));
        } else {
            String got = answer(callOf(line));
            boolean threw = got.startsWith("throws.");
            String otherwise = threw ? "no exception" : got;
            Check.same(where(callOf(line)), dueOf(line).isEmpty() ? otherwise : dueOf(line), got);
        }
    }

    private void typeAll(String text) {
        for (char character : text.toCharArray()) {
            String got = Check.answer(() -> ballet.type(character));
            Check.same(where("type('" + character + "') throws"), "false",
                    String.valueOf(got.startsWith("throws.")));
        }
    }

    private void readLine(String text) {
        for (int i = 0; i < text.length(); i++) {
            int index = i;
            Check.same(where("charAt(" + i + ")"), String.valueOf(text.charAt(i)),
                    Check.answer(() -> ballet.charAt(index)));
        }
        Check.same(where("charAt(" + text.length() + ")"), "throws.IndexOutOfBoundsException",
                Check.answer(() -> ballet.charAt(text.length())));
    }

    private String where(String call) {
        return name + ": " + call;
    }

    private String answer(String text) {
        Call call = CALLS.computeIfAbsent(text, Script::parsed);
        try {
            return String.valueOf(call.method().invoke(ballet, call.values()));
        } catch (InvocationTargetException e) {
            return "throws." + e.getCause().getClass().getSimpleName();
        } catch (IllegalAccessException e) {
            throw new IllegalStateException(e);
        }
    }

    private static Call parsed(String text) {
        String inside = text.substring(text.indexOf('(') + 1, text.lastIndexOf(')'));
        String[] parts = inside.isEmpty() ? new String[0] : inside.split(", ");
        Object[] values = new Object[parts.length];
        for (int i = 0; i < parts.length; i++) {
            values[i] = value(parts[i]);
        }
        Method method = METHODS.get(text.substring(0, text.indexOf('(')));
        if (method == null) {
            throw new IllegalArgumentException("no method for " + text);
        }
        return new Call(method, values);
    }

    private static Object value(String part) {
        if (part.startsWith("'")) {
            return part.charAt(1);
        }
        if (part.startsWith("#")) {
            return (char) Integer.parseInt(part.substring(1));
        }
        return Integer.valueOf(part);
    }

    private static Map<String, Method> methods() {
        Map<String, Method> methods = new HashMap<>();
        for (Method method : StageBallet.class.getMethods()) {
            if (method.getDeclaringClass() == StageBallet.class) {
                methods.put(method.getName(), method);
            }
        }
        return methods;
    }
}
