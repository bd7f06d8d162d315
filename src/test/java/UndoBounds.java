import java.util.List;

/** The sentences about undoing, saving and restoring: promises 52 to 54, and the terms of undo. */
final class UndoBounds {
    private static final String CHANGE = "A change is a successful call of addProp, removeProp";
    private static final String LATEST = "The 8 latest changes can be undone.";
    private static final String STATE = "The state that is undone, saved and restored consists of everything";
    /** Two pairs of which one is on the way, props, exits and figures: five changes by programs. */
    private static final String STAGE = """
            type "dancer 00*20;dancer 20*15;dancer 44*5;dancer 46*0"
            run() = 4
            type "pair 0&1;prop 77;prop 76;exit 00;exit 20;exit 44;exit 46"
            run() = 7
            type "figure 0:US;figure 5:D;figure 2:UDUDUDUDUDU;figure 3:L"
            run() = 4
            type "nails 1;walk 2>45"
            run() = 2
            """;

    private UndoBounds() {
    }

    static void test() {
        eachChange();
        noChanges();
        refusedCallsAreNoChanges();
        eightLatest();
        undo();
        stateOfUndo();
        movesOfUndo();
        save();
        restore();
        orderOfCalls();
    }

    private static void eachChange() {
        String[][] changes = {
            {"addProp(3, 3)", "3"}, {"removeProp(7, 7)", "1"}, {"addDancer(3, 3, 9)", "4"}, {"removeDancer(0)", "3"},
            {"removeDancer(3)", "3"}, {"pair(2, 3)", "2"}, {"unpair(1)", "0"}, {"addMove(2, 'R')", "12"},
            {"addMove(4, 'S')", "1"}, {"clearFigure(2)", "11"}, {"clearFigure(4)", "0"}, {"perform(0, 0)", "2"},
            {"perform(0, 1)", "2"}, {"perform(4, 3)", "0"}, {"walk(0, 7, 5)", "8"}, {"walk(0, 0, 0)", "20"},
            {"renewNails(3)", "0"}, {"renewNails(0)", "20"}, {"addExit(5, 5)", "4"}, {"removeExit(0)", "3"},
            {"removeExit(3)", "3"}, {"leaveAll()", "1"}};
        List<String> setup = List.of(STAGE.split("\n"));
        for (String[] change : changes) {
            // Whatever the change was, it is one of four and five that can be undone.
            Sentence.holds(Sentence.TERMS, CHANGE, STAGE + change[0] + " = " + change[1] + "\nundo() = 4\nundo() = 3\n");
            Sentence.holds(52, "Undoes the latest change that was not undone.", STAGE + change[0] + " = " + change[1]
                    + "\nundo() = 4\n" + change[0] + " = " + change[1] + "\nundo() = 4\n");
            Twin.changeIsUndone(change[0], setup, change[0]);
        }
        for (String program : new String[] {"prop 33", "prop 33;dancer 34*7;exit 55;figure 2:;perform 5 2", "leave",
            "walk 0>00", "figure 4:", "perform 4 0;nails 0", "walk 1>75;nails 1;walk 1>20;nails 1;pair 2&3;leave",
            "figure 2:LLLRRRLLLRR;figure 0:LRLRLRLRLRLR", "figure 5:"}) {
            String typed = STAGE + "type \"" + program + "\"\n";
            int commands = program.split(";").length;
            Sentence.holds(Sentence.TERMS, CHANGE, typed + "run() = " + commands + "\nundo() = 4\nundo() = 3\n");
            Twin.changeIsUndone(program, List.of(typed.split("\n")), "run()");
        }
    }

    private static void noChanges() {
        String questions = """
                isFree(0, 0) = false
                areas() = 1
                areasByUnions() = 1
                areaSize(0, 0) = 62
                dancers() = 4
                isPresent(4) = false
                column(0) = 0
                row(0) = 0
                nails(0) = 20
                partner(0) = 1
                dancerByNails(0) = 3
                figureLength(2) = 11
                blockedBeat(3, 0) = 0
                distance(0, 1, 0) = 1
                distanceByRounds(0, 1, 0) = 1
                exits() = 4
                exitDistance(0, 1) = 2
                exitCost() = 1
                exitCostByPotentials() = 1
                exitOf(0) = 0
                isMirrored() = false
                isMirroredByRows() = false
                lostNails() = 1
                lostNailsByParts() = 1
                meanNails() = 11.0
                meanNailsBits() = 4622382067542392832
                pairedShare() = 0.5
                pairedShareBits() = 1056964608
                isConsistent() = true
                writeRow(0) = 8
                writeFigure(0) = 2
                charAt(0) = U
                type('x') = 1
                save() = 4
                """;
        for (String question : questions.split("\n")) {
            String before = question.startsWith("charAt") ? "writeFigure(0) = 2\n" : "";
            Sentence.holds(Sentence.TERMS, CHANGE, STAGE + before + question + "\nundo() = 3\n");
        }
        Sentence.holds(Sentence.TERMS, CHANGE, STAGE + questions + "undo() = 3\nundo() = 2\nundo() = 1\nundo() = 0\n"
                + "undo() = throws.IllegalStateException\nerrorPosition() = throws.NoSuchElementException\n");
        // Undoing is no change itself: there is no way back.
        Sentence.holds(Sentence.TERMS, CHANGE, """
                addProp(0, 0) = 1
                addProp(1, 0) = 2
                undo() = 1
                undo() = 0
                undo() = throws.IllegalStateException
                isFree(0, 0) = true
                isFree(1, 0) = true
                """);
    }

    private static void refusedCallsAreNoChanges() {
        String refused = """
                addProp(0, 0) = throws.IllegalStateException
                addProp(8, 0) = throws.IndexOutOfBoundsException
                removeProp(0, 0) = throws.IllegalStateException
                addDancer(0, 0, 0) = throws.IllegalStateException
                addDancer(5, 5, 21) = throws.IllegalArgumentException
                removeDancer(4) = throws.NoSuchElementException
                pair(0, 2) = throws.IllegalStateException
                pair(0, 4) = throws.NoSuchElementException
                pair(2, 2) = throws.IllegalArgumentException
                unpair(2) = throws.IllegalStateException
                renewNails(4) = throws.NoSuchElementException
                addMove(0, 'X') = throws.IllegalArgumentException
                addMove(6, 'U') = throws.IndexOutOfBoundsException
                clearFigure(6) = throws.IndexOutOfBoundsException
                perform(3, 0) = throws.UnsupportedOperationException
                perform(6, 0) = throws.IndexOutOfBoundsException
                perform(0, 4) = throws.NoSuchElementException
                walk(0, 7, 7) = throws.UnsupportedOperationException
                walk(3, 4, 7) = throws.IllegalStateException
                addExit(0, 0) = throws.IllegalStateException
                addExit(0, 8) = throws.IndexOutOfBoundsException
                removeExit(4) = throws.IndexOutOfBoundsException
                type "prop"
                run() = throws.IllegalArgumentException
                type "prop 33;leave;leave"
                run() = throws.UnsupportedOperationException
                restore() = throws.IllegalStateException
                """;
        Sentence.holds(Sentence.TERMS, CHANGE, STAGE + refused + "undo() = 3\n");
        Sentence.holds(Sentence.TERMS, "A method that throws an exception changes nothing", STAGE + refused + """
                dancers() = 4
                exits() = 4
                lostNails() = 1
                areaSize(0, 0) = 62
                addDancer(3, 3, 3) = 4
                """);
    }

    private static void eightLatest() {
        for (int changes = 1; changes <= 12; changes++) {
            int undone = Math.min(8, changes);
            StringBuilder undos = new StringBuilder();
            for (int k = 1; k <= undone; k++) {
                undos.append("undo() = ").append(undone - k).append("\nareaSize(7, 7) = ").append(64 - changes + k)
                        .append('\n');
            }
            Sentence.holds(Sentence.TERMS, LATEST, Lines.props(changes) + undos + "undo() = throws.IllegalStateException\n"
                    + "areaSize(7, 7) = " + (64 - changes + undone) + "\n");
            Sentence.holds(52, "Returns the number of changes that can still be undone.", Lines.props(changes) + undos
                    + "addProp(7, 3) = " + (changes - undone + 1) + "\nundo() = 0\n");
        }
        // What is no longer among the eight latest stays so, when later ones are undone.
        Sentence.holds(Sentence.TERMS, LATEST, Lines.props(10) + """
                undo() = 7
                undo() = 6
                addProp(0, 3) = 9
                undo() = 6
                addProp(0, 3) = 9
                addProp(1, 3) = 10
                addProp(2, 3) = 11
                undo() = 7
                undo() = 6
                undo() = 5
                undo() = 4
                undo() = 3
                undo() = 2
                undo() = 1
                undo() = 0
                areaSize(7, 7) = 61
                undo() = throws.IllegalStateException
                """);
    }

    private static void undo() {
        String latest = "Undoes the latest change that was not undone.";
        Sentence.holds(52, latest, """
                addProp(0, 0) = 1
                addProp(1, 0) = 2
                addProp(2, 0) = 3
                undo() = 2
                undo() = 1
                isFree(0, 0) = false
                isFree(1, 0) = true
                addExit(5, 5) = 0
                undo() = 1
                exits() = 0
                isFree(0, 0) = false
                undo() = 0
                isFree(0, 0) = true
                """);
        Sentence.holds(52, "Returns the number of changes that can still be undone.", Lines.times(8, "clearFigure(0) = 0")
                + "undo() = 7\nundo() = 6\nclearFigure(0) = 0\nundo() = 6\n" + Lines.times(5, "clearFigure(0) = 0")
                + "undo() = 7\n");
        String none = "Throws `IllegalStateException` if no change can be undone";
        Sentence.holds(52, none, """
                undo() = throws.IllegalStateException
                save() = 0
                undo() = throws.IllegalStateException
                addProp(0, 0) = 1
                undo() = 0
                undo() = throws.IllegalStateException
                addProp(0, 0) = 1
                restore() = 0
                undo() = throws.IllegalStateException
                """);
        Sentence.holds(52, none, Lines.times(9, "clearFigure(0) = 0") + "undo() = 7\nundo() = 6\nundo() = 5\nundo() = 4\n"
                + "undo() = 3\nundo() = 2\nundo() = 1\nundo() = 0\nundo() = throws.IllegalStateException\n"
                + "undo() = throws.IllegalStateException\n");
    }

    private static void stateOfUndo() {
        // The buffer, the error position, the failed command and the output line stay.
        String others = """
                addDancer(0, 0, 5) = 0
                save() = 1
                addProp(1, 0) = 1
                writeRow(0) = 8
                type "prop"
                run() = throws.IllegalArgumentException
                type "nails 0;nails 1"
                run() = throws.UnsupportedOperationException
                type "lea"
                IT
                line = "0#......"
                errorPosition() = 4
                failedCommand() = 1
                type('v') = 4
                isFree(1, 0) = true
                """;
        Sentence.holdsForEach(Sentence.TERMS, STATE, others, "undo() = 1", "restore() = 1");
        Sentence.holds(Sentence.TERMS, STATE, """
                undo() = throws.IllegalStateException
                type "dancer 00*20;walk 0>77;nails 0;exit 00;figure 1:U;prop 55"
                run() = 6
                undo() = 0
                dancers() = 0
                lostNails() = 0
                lostNailsByParts() = 0
                exits() = 0
                figureLength(1) = 0
                isFree(5, 5) = true
                addDancer(0, 0, 0) = 0
                """);
    }

    /** The moves of a figure that is written anew come back, not only their number. */
    private static void movesOfUndo() {
        String figure = Lines.moves(0, "UUD") + "save() = 0\n";
        String cleared = figure + "clearFigure(0) = 3\n" + Lines.moves(0, "RS");
        String shown = "writeFigure(0) = 3\nline = \"2UD\"\n";
        Sentence.holds(Sentence.TERMS, STATE, figure + "type \"figure 0:LSR\"\nrun() = 1\nwriteFigure(0) = 3\n"
                + "line = \"LSR\"\nundo() = 3\n" + shown);
        Sentence.holds(Sentence.TERMS, STATE, cleared + "undo() = 5\nundo() = 4\nundo() = 3\n" + shown);
        Sentence.holds(Sentence.TERMS, STATE, cleared + "restore() = 0\n" + shown);
    }

    private static void save() {
        String number = "Returns the number of dancers.";
        StringBuilder counted = new StringBuilder("save() = 0\n");
        for (int k = 0; k < 8; k++) {
            counted.append("addDancer(").append(k).append(", 0, 1) = ").append(k).append("\nsave() = ").append(k + 1)
                    .append('\n');
        }
        Sentence.holds(53, number, counted + "removeDancer(3) = 7\nsave() = 7\nundo() = 7\nsave() = 8\n");
        Sentence.holds(53, "Saves the state in place of the state that was saved before.", """
                addDancer(0, 0, 1) = 0
                save() = 1
                addDancer(1, 0, 1) = 1
                save() = 2
                addDancer(2, 0, 1) = 2
                restore() = 2
                isPresent(2) = false
                isPresent(1) = true
                removeDancer(0) = 1
                save() = 1
                restore() = 1
                isPresent(0) = false
                """);
        // Saving is not undone, nor does undoing change what is saved.
        Sentence.holds(53, "Saves the state in place of the state that was saved before.", """
                addProp(0, 0) = 1
                addProp(1, 0) = 2
                save() = 0
                undo() = 1
                undo() = 0
                isFree(0, 0) = true
                restore() = 0
                isFree(0, 0) = false
                isFree(1, 0) = false
                """);
    }

    private static void restore() {
        Sentence.holds(54, "Restores the saved state, which stays saved.", STAGE + """
                save() = 4
                leaveAll() = 1
                restore() = 4
                partner(1) = 0
                nails(1) = 20
                row(2) = 5
                exits() = 4
                lostNails() = 1
                figureLength(2) = 11
                isFree(7, 7) = false
                clearFigure(2) = 11
                removeDancer(2) = 3
                restore() = 4
                figureLength(2) = 11
                nails(2) = 4
                restore() = 4
                partner(0) = 1
                """);
        Sentence.holds(54, "Restores the saved state, which stays saved.", "save() = 0\n" + STAGE + """
                restore() = 0
                exits() = 0
                areaSize(7, 7) = 64
                figureLength(2) = 0
                addDancer(0, 0, 0) = 0
                restore() = 0
                """);
        String noUndo = "Afterwards no change can be undone.";
        Sentence.holds(54, noUndo, Lines.times(9, "clearFigure(0) = 0") + """
                save() = 0
                addProp(0, 0) = 1
                restore() = 0
                undo() = throws.IllegalStateException
                addProp(1, 0) = 1
                addProp(2, 0) = 2
                undo() = 1
                undo() = 0
                undo() = throws.IllegalStateException
                areaSize(0, 0) = 64
                restore() = 0
                undo() = throws.IllegalStateException
                """);
        Sentence.holds(54, noUndo, "save() = 0\nrestore() = 0\nundo() = throws.IllegalStateException\n" + Lines.props(9)
                + "undo() = 7\nundo() = 6\nundo() = 5\nundo() = 4\nundo() = 3\nundo() = 2\nundo() = 1\nundo() = 0\n"
                + "undo() = throws.IllegalStateException\nisFree(0, 0) = false\nisFree(1, 0) = true\n");
        StringBuilder counted = new StringBuilder("save() = 0\nrestore() = 0\n");
        for (int k = 0; k < 8; k++) {
            counted.append("addDancer(").append(k).append(", 0, 1) = ").append(k).append("\nsave() = ").append(k + 1)
                    .append("\nremoveDancer(0) = ").append(k).append("\nrestore() = ").append(k + 1).append('\n');
        }
        Sentence.holds(54, "Returns the number of dancers.", counted.toString());
        Sentence.holds(54, "Throws `IllegalStateException` if no state was saved", """
                restore() = throws.IllegalStateException
                addDancer(0, 0, 1) = 0
                restore() = throws.IllegalStateException
                undo() = 0
                restore() = throws.IllegalStateException
                save() = 0
                restore() = 0
                """);
    }

    /** The dearest calls fill the 512 that an object is used for. */
    private static void orderOfCalls() {
        StringBuilder lines = new StringBuilder(Lines.dancers(6, 0, 20) + Lines.exits(6, 7));
        for (int k = 0; k < 125; k++) {
            lines.append("leaveAll() = 42\nundo() = 7\nexitCostByPotentials() = 42\nexitCost() = 42\n");
        }
        Sentence.holds(52, "Undoes the latest change that was not undone.", lines.toString());
    }
}
