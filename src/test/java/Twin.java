import java.util.ArrayList;
import java.util.List;

/** Compares two objects that had the same calls but for some which should make no difference. */
final class Twin {
    private Twin() {
    }

    /** Between the lines before a refused call and that call nothing else has been seen or typed. */
    static void refusalChangesNothing(String name, List<String> earlier, String line) {
        List<String> without = line.startsWith("run()") ? withoutBuffer(earlier) : earlier;
        compare(name, plus(earlier, line), without, line);
        List<String> dressed = plus(dressed(earlier), line);
        Script script = Script.played(dressed.subList(0, dressed.size() - 1));
        if (!line.startsWith("run()") && script.play(line).equals(Script.dueOf(line))) {
            compare(name + ", dressed", dressed, dressed(earlier), line);
        }
    }

    /** A change and its undoing, and a change between saving and restoring, leave the state as it was. */
    static void changeIsUndone(String name, List<String> earlier, String line) {
        List<String> before = line.startsWith("run()") ? withoutBuffer(earlier) : earlier;
        compare(name + ", undone", plus(plus(earlier, line), "undo()"), before, line);
        List<String> saved = plus(earlier, "save()");
        compare(name + ", restored", plus(plus(saved, line), "restore()"),
                plus(plus(before, "save()"), "restore()"), line);
    }

    /** Two ways to the same state, whatever can be undone, was typed or failed on either of them. */
    static void sameState(String name, List<String> lines, List<String> others) {
        for (Sight.Look look : new Sight.Look[] {Sight.Look.STATE, Sight.Look.EXITS}) {
            compare(name, lines, others, look);
        }
    }

    /** The lines with a full history, a saved state, recorded errors, an output line and a buffer. */
    private static List<String> dressed(List<String> earlier) {
        List<String> lines = new ArrayList<>();
        for (int k = 0; k < 8; k++) {
            lines.add("clearFigure(0)");
        }
        lines.addAll(List.of("save()", "type \"leave?\"", "run()", "type \"nails 9\"", "run()"));
        lines.addAll(earlier);
        lines.addAll(List.of("writeRow(3)", "type \"le\""));
        return lines;
    }

    private static List<String> withoutBuffer(List<String> earlier) {
        List<String> lines = new ArrayList<>();
        List<String> sinceRun = new ArrayList<>();
        for (String line : earlier) {
            sinceRun.add(line);
            if (line.startsWith("run()")) {
                lines.addAll(sinceRun);
                sinceRun.clear();
            }
        }
        sinceRun.removeIf(line -> line.startsWith("type"));
        lines.addAll(sinceRun);
        return lines;
    }

    private static List<String> plus(List<String> lines, String line) {
        List<String> longer = new ArrayList<>(lines);
        longer.add(line);
        return longer;
    }

    private static void compare(String name, List<String> lines, List<String> others, String line) {
        for (Sight.Look look : Sight.Look.values()) {
            boolean mayDiffer = line.startsWith("run()") && look == Sight.Look.ERRORS;
            if (!mayDiffer) {
                compare(name + ": after " + Script.callOf(line), lines, others, look);
            }
        }
    }

    /** Only the first difference is told. */
    private static void compare(String name, List<String> lines, List<String> others, Sight.Look look) {
        List<String> want = Sight.of(look, Script.played(others).ballet);
        List<String> got = Sight.of(look, Script.played(lines).ballet);
        int same = 0;
        while (same < want.size() && same < got.size() && want.get(same).equals(got.get(same))) {
            same++;
        }
        Check.same(name + ": " + look, from(same, want), from(same, got));
    }

    private static String from(int index, List<String> seen) {
        return index < seen.size() ? seen.get(index) : "nothing more";
    }
}
