/** What the document says of the use of an object: every one of its 512 calls answers as is due. */
final class UseBounds {
    private static final int MOST_CALLS = 512;

    private UseBounds() {
    }

    static void test() {
        manyDancers();
        manyNails();
        manyChanges();
        manyPrograms();
        manySavedStates();
        manyRefusals();
        manyQuestions();
    }

    /** Runs lines that are 512 calls in all, counted as Script makes them. */
    private static void holdsToTheLastCall(String lines) {
        int calls = 0;
        for (String line : lines.split("\n")) {
            calls += callsOf(line.trim());
        }
        Check.same("number of calls", String.valueOf(MOST_CALLS), String.valueOf(calls));
        Sentence.holds(Sentence.WHAT_IT_IS, "An object is used for at most 512 calls after it has been made", lines);
    }

    private static int callsOf(String line) {
        if (line.startsWith("type \"")) {
            return line.length() - "type \"\"".length();
        }
        // Reading the output line ends with the call behind its end.
        return line.startsWith("line = \"") ? line.length() - "line = \"\"".length() + 1 : 1;
    }

    private static void manyDancers() {
        StringBuilder lines = new StringBuilder();
        for (int k = 0; k < 249; k++) {
            lines.append("addDancer(3, 3, 20) = ").append(k).append("\nremoveDancer(").append(k).append(") = 0\n");
        }
        holdsToTheLastCall(lines + """
                addDancer(3, 3, 20) = 249
                addDancer(4, 3, 20) = 250
                writeRow(3) = 8
                line = "...90..."
                isPresent(250) = true
                lostNailsByParts() = 0
                """);
    }

    private static void manyNails() {
        String beats = "addDancer(0, 0, 20) = 0\naddDancer(7, 0, 20) = 1\npair(0, 1) = 1\n"
                + Lines.moves(0, "UDUDUDUDUDUD");
        holdsToTheLastCall(beats + "perform(0, 0) = 24\nrenewNails(0) = 8\nrenewNails(1) = 8\n".repeat(165)
                + "lostNails() = 3960\nlostNailsByParts() = 3960\n");
    }

    private static void manyChanges() {
        String both = "addProp(0, 0) = 1\nremoveProp(0, 0) = 0\n";
        String undos = "undo() = 7\nundo() = 6\nundo() = 5\nundo() = 4\nundo() = 3\nundo() = 2\nundo() = 1\nundo() = 0\n";
        holdsToTheLastCall(both.repeat(251) + undos + "undo() = throws.IllegalStateException\nisFree(0, 0) = true\n");
        holdsToTheLastCall("addProp(0, 0) = 1\n" + "addProp(1, 0) = 2\nundo() = 1\n".repeat(255) + "isFree(1, 0) = true\n");
    }

    private static void manyPrograms() {
        String program = "type \"nails 0\"\nrun() = 1\n";
        holdsToTheLastCall("addDancer(0, 0, 0) = 0\n" + program.repeat(63) + """
                undo() = 7
                undo() = 6
                nails(0) = 20
                areas() = 1
                failedCommand() = throws.NoSuchElementException
                errorPosition() = throws.NoSuchElementException
                isConsistent() = true
                """);
        String longest = "type \"" + "leave;".repeat(9) + "leave.\"\n";
        holdsToTheLastCall((longest + "run() = throws.IllegalArgumentException\nerrorPosition() = 59\n").repeat(8)
                + "errorPosition() = 59\n".repeat(16));
    }

    private static void manySavedStates() {
        holdsToTheLastCall("addDancer(0, 0, 5) = 0\nsave() = 1\naddDancer(1, 0, 5) = 1\nsave() = 2\n"
                + "removeDancer(0) = 1\nrestore() = 2\n".repeat(254));
    }

    private static void manyRefusals() {
        // Few of them are written as refused: each of those is compared with a twin, on all earlier lines.
        holdsToTheLastCall("removeDancer(0) = throws.NoSuchElementException\n".repeat(16) + "areaSize(0, 0) = 64\n".repeat(490)
                + "addProp(0, 8) = throws.IndexOutOfBoundsException\n".repeat(4) + "addProp(0, 7) = 1\nundo() = 0\n");
    }

    /** The dearest questions, on a full stage with the longest ways. */
    private static void manyQuestions() {
        String stage = Lines.snake() + "addDancer(0, 0, 20) = 0\naddDancer(2, 7, 20) = 1\naddDancer(6, 0, 20) = 2\n"
                + "addDancer(7, 7, 20) = 3\naddDancer(4, 0, 20) = 4\naddDancer(7, 0, 20) = 5\n" + """
                addExit(6, 0) = 0
                addExit(0, 0) = 1
                addExit(7, 0) = 2
                addExit(2, 7) = 3
                addExit(4, 0) = 4
                addExit(7, 7) = 5
                """;
        holdsToTheLastCall(stage + """
                exitCost() = 0
                exitCostByPotentials() = 0
                exitOf(5) = 2
                areas() = 1
                areasByUnions() = 1
                areaSize(7, 7) = 44
                exitDistance(0, 0) = 32
                distance(0, 1, 7) = 8
                distanceByRounds(0, 1, 7) = 8
                isConsistent() = true
                """.repeat(48));
    }
}
