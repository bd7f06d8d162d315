import java.io.IOException;
import java.lang.reflect.Method;
import java.lang.reflect.Modifier;
import java.nio.file.Files;
import java.nio.file.Path;
import java.util.ArrayList;
import java.util.List;
import java.util.regex.Matcher;
import java.util.regex.Pattern;

/** What README.md says: its examples answer as they say there, and it names every call and every test. */
final class ReadmeTest {
    private static final String NEW_OBJECT = "StageBallet ballet = new StageBallet();";
    private static final Pattern CALL = Pattern.compile(
            "ballet\\.(\\w+\\(.*\\));(?:\\s*// (answers|throws) ([^\\s,:]+).*)?");
    private static final Pattern TYPED = Pattern.compile("for \\(char sign : \"([^\"]*)\"\\.toCharArray\\(\\)\\) \\{");

    private ReadmeTest() {
    }

    public static void main(String[] args) throws IOException {
        String readme = Files.readString(Path.of("README.md"));
        int examples = 0;
        Matcher example = Pattern.compile("(?s)```java\n(.*?)```").matcher(readme);
        while (example.find()) {
            examples++;
            Script.run("README.md, example " + examples, scriptOf(example.group(1)));
        }
        Check.same("README.md has examples", "true", String.valueOf(examples > 0));
        namesEveryCall(readme);
        namesEveryTest(readme);
        Check.end("ReadmeTest");
    }

    /** The lines of an example, each of which must have one of the forms that Script knows as well. */
    private static String scriptOf(String example) {
        List<String> lines = new ArrayList<>();
        for (String raw : example.split("\n")) {
            String line = raw.trim();
            Matcher call = CALL.matcher(line);
            Matcher typed = TYPED.matcher(line);
            if (typed.matches()) {
                lines.add("type \"" + typed.group(1) + "\"");
            } else if (call.matches() && !call.group(1).equals("type(sign)")) {
                lines.add(call.group(1) + dueOf(call));
            } else {
                boolean known = line.isEmpty() || line.equals(NEW_OBJECT) || line.equals("ballet.type(sign);")
                        || line.equals("}");
                Check.same("README.md, known form of the line " + line, "true", String.valueOf(known));
            }
        }
        return String.join("\n", lines);
    }

    private static String dueOf(Matcher call) {
        if (call.group(2) == null) {
            return "";
        }
        return " = " + (call.group(2).equals("throws") ? "throws." : "") + call.group(3);
    }

    private static void namesEveryCall(String readme) {
        for (Method method : StageBallet.class.getDeclaredMethods()) {
            if (Modifier.isPublic(method.getModifiers())) {
                Check.same("README.md names " + method.getName(), "true",
                        String.valueOf(readme.contains("`" + method.getName() + "`")));
            }
        }
    }

    private static void namesEveryTest(String readme) throws IOException {
        try (var files = Files.list(Path.of("src/test/java"))) {
            for (Path file : files.sorted().toList()) {
                String name = file.getFileName().toString().replace(".java", "");
                if (name.endsWith("Test")) {
                    Check.same("README.md names " + name, "true", String.valueOf(readme.contains("`" + name + "`")));
                }
            }
        }
    }
}
