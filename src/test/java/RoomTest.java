import java.io.IOException;
import java.lang.reflect.Array;
import java.lang.reflect.Field;
import java.lang.reflect.Modifier;
import java.nio.file.Files;
import java.nio.file.Path;
import java.util.IdentityHashMap;
import java.util.Map;
import java.util.regex.Pattern;

/** All objects and arrays are made with the object itself; a call makes none but the exception it throws. */
final class RoomTest {
    /** Far below the room of a run, which is 600,000 objects with 7.3 million fields and elements. */
    private static final int MOST_OBJECTS = 200;
    private static final int MOST_PLACES = 4000;

    private final Map<Object, Boolean> seen = new IdentityHashMap<>();
    private int places = 0;

    private RoomTest() {
    }

    public static void main(String[] args) throws IOException {
        objectIsSmall();
        callsMakeNothing();
        Check.end("RoomTest");
    }

    private static void objectIsSmall() {
        RoomTest room = new RoomTest();
        room.visit(new StageBallet());
        Check.same("objects and arrays, " + room.seen.size() + ", are few", "true",
                String.valueOf(room.seen.size() > 1 && room.seen.size() <= MOST_OBJECTS));
        Check.same("fields and elements, " + room.places + ", are few", "true",
                String.valueOf(room.places <= MOST_PLACES));
    }

    private void visit(Object object) {
        if (object == null || seen.put(object, true) != null) {
            return;
        }
        if (object.getClass().isArray()) {
            visitElements(object);
        } else {
            visitFields(object);
        }
    }

    private void visitElements(Object array) {
        places += Array.getLength(array);
        if (array instanceof Object[] objects) {
            for (Object element : objects) {
                visit(element);
            }
        }
    }

    private void visitFields(Object object) {
        for (Field field : object.getClass().getDeclaredFields()) {
            if (Modifier.isStatic(field.getModifiers())) {
                continue;
            }
            places++;
            if (!field.getType().isPrimitive()) {
                field.setAccessible(true);
                try {
                    visit(field.get(object));
                } catch (IllegalAccessException e) {
                    throw new IllegalStateException(e);
                }
            }
        }
    }

    /** In the text, "new" stands in initialisers of fields, in one constructor and behind "throw" alone. */
    private static void callsMakeNothing() throws IOException {
        String text = Files.readString(Path.of("src/main/java/StageBallet.java"))
                .replaceAll("(?s)/\\*.*?\\*/", "").replaceAll("//.*", "");
        Pattern allowed = Pattern.compile("throw new \\w+\\(\\);|(private )?final [\\w\\[\\]]+ \\w+ = new .*;"
                + "|states\\[index\\] = new State\\(\\);");
        for (String raw : text.split("\n")) {
            String line = raw.trim();
            boolean makes = Pattern.compile("\\bnew\\b|\\.clone\\(|toCharArray|substring").matcher(line).find();
            if (makes) {
                Check.same("what is made by " + line, "true", String.valueOf(allowed.matcher(line).matches()));
            }
        }
    }
}
