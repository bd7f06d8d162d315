import java.io.IOException;
import java.lang.reflect.Constructor;
import java.lang.reflect.Executable;
import java.lang.reflect.Field;
import java.lang.reflect.Method;
import java.lang.reflect.Modifier;
import java.nio.file.Files;
import java.nio.file.Path;
import java.util.ArrayList;
import java.util.List;
import java.util.TreeSet;
import java.util.regex.Matcher;
import java.util.regex.Pattern;

/** The public face against the document, and the rules of the language that the text shows. */
final class FaceTest {
    private FaceTest() {
    }

    public static void main(String[] args) throws IOException {
        faceIsAsInTheDocument();
        nothingElseIsVisible();
        noPrivateMethodBearsAPublicName();
        classesAreSmall();
        textKeepsToTheLanguage();
        Check.end("FaceTest");
    }

    private static void faceIsAsInTheDocument() throws IOException {
        String document = Files.readString(Path.of("../shared/DOC.md"));
        TreeSet<String> due = new TreeSet<>();
        Matcher face = Pattern.compile("(?m)^    public (.*);$").matcher(document);
        while (face.find()) {
            due.add(face.group(1));
        }
        TreeSet<String> got = new TreeSet<>();
        for (Constructor<?> constructor : StageBallet.class.getConstructors()) {
            got.add("StageBallet" + parameters(constructor));
        }
        for (Method method : StageBallet.class.getDeclaredMethods()) {
            if (Modifier.isPublic(method.getModifiers())) {
                got.add(method.getReturnType().getName() + " " + method.getName() + parameters(method)
                        + thrown(method));
            }
        }
        Check.same("number of the face's lines", "54", String.valueOf(due.size()));
        Check.same("the face", withoutParameterNames(due).toString(), got.toString());
    }

    private static TreeSet<String> withoutParameterNames(TreeSet<String> lines) {
        TreeSet<String> result = new TreeSet<>();
        for (String line : lines) {
            result.add(line.replaceAll("(int|char) \\w+([,)])", "$1$2"));
        }
        return result;
    }

    private static String parameters(Executable executable) {
        List<String> types = new ArrayList<>();
        for (Class<?> type : executable.getParameterTypes()) {
            types.add(type.getName());
        }
        return "(" + String.join(", ", types) + ")";
    }

    private static String thrown(Executable executable) {
        List<String> types = new ArrayList<>();
        for (Class<?> type : executable.getExceptionTypes()) {
            types.add(type.getSimpleName());
        }
        return types.isEmpty() ? "" : " throws " + String.join(", ", types);
    }

    private static void nothingElseIsVisible() {
        int modifiers = StageBallet.class.getModifiers();
        Check.same("public and final", "true",
                String.valueOf(Modifier.isPublic(modifiers) && Modifier.isFinal(modifiers)));
        for (Field field : StageBallet.class.getDeclaredFields()) {
            Check.same("the field " + field.getName() + " is private", "true",
                    String.valueOf(Modifier.isPrivate(field.getModifiers())));
        }
        for (Method method : StageBallet.class.getDeclaredMethods()) {
            boolean open = Modifier.isPublic(method.getModifiers());
            boolean hidden = Modifier.isPrivate(method.getModifiers());
            Check.same("the method " + method.getName() + " is public or private", "true",
                    String.valueOf(open || hidden));
        }
        for (Class<?> inside : StageBallet.class.getDeclaredClasses()) {
            Check.same("the class " + inside.getSimpleName() + " is static and private", "true",
                    String.valueOf(Modifier.isStatic(inside.getModifiers())
                            && Modifier.isPrivate(inside.getModifiers())));
        }
    }

    private static List<Class<?>> allClasses() {
        List<Class<?>> classes = new ArrayList<>(List.of(StageBallet.class.getDeclaredClasses()));
        classes.add(StageBallet.class);
        return classes;
    }

    private static void noPrivateMethodBearsAPublicName() {
        TreeSet<String> names = new TreeSet<>();
        for (Method method : StageBallet.class.getMethods()) {
            if (method.getDeclaringClass() == StageBallet.class) {
                names.add(method.getName());
            }
        }
        for (Class<?> owner : allClasses()) {
            for (Method method : owner.getDeclaredMethods()) {
                boolean ofTheFace = Modifier.isPublic(method.getModifiers()) && owner == StageBallet.class;
                Check.same("the name " + method.getName() + " in " + owner.getSimpleName(), "false",
                        String.valueOf(!ofTheFace && names.contains(method.getName())));
            }
        }
    }

    private static void classesAreSmall() {
        Check.same("at most twelve classes", "true", String.valueOf(allClasses().size() <= 12));
        for (Class<?> owner : allClasses()) {
            int fields = 0;
            for (Field field : owner.getDeclaredFields()) {
                fields += Modifier.isStatic(field.getModifiers()) ? 0 : 1;
            }
            Check.same("at most twenty fields in " + owner.getSimpleName(), "true",
                    String.valueOf(fields <= 20));
            for (Method method : owner.getDeclaredMethods()) {
                Check.same("at most seven parameters of " + method.getName(), "true",
                        String.valueOf(method.getParameterCount() <= 7));
            }
        }
    }

    private static void textKeepsToTheLanguage() throws IOException {
        String text = Files.readString(Path.of("src/main/java/StageBallet.java"))
                .replaceAll("(?s)/\\*.*?\\*/", "").replaceAll("//.*", "");
        String[] refused = {
            "\\bcatch\\b", "\\btry\\b", "\\bfinally\\b", "\\bsynchronized\\b", "\\bassert\\b", "->", "::",
            "\\bstatic \\{", "\\bvar\\b", "\\bpackage\\b", "\\bDouble\\b", "\\bFloat\\b", "\\bArrays\\b",
            "Exact\\b", "\\bString\\.", "\" \\+", "\\+ \"", "\\bequals\\(", "[^\\x00-\\x7f]", "\\bLong\\.(?!bitCount\\()",
            "\\bMath\\.(?!min\\(|max\\()", "\\bInteger\\.(?!bitCount\\()", "\\bSystem\\.(?!arraycopy\\()",
            "import (?!java\\.util\\.NoSuchElementException;)", "throw new \\w+\\([^)]", "throw (?!new)"};
        for (String pattern : refused) {
            Check.same("the text has " + pattern, "false",
                    String.valueOf(Pattern.compile(pattern).matcher(text).find()));
        }
    }
}
