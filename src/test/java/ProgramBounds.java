import java.util.ArrayList;
import java.util.List;

/** The sentences about programs: promises 48 to 51, and the terms of programs. */
final class ProgramBounds {
    /** One dancer with an exit, and a figure that can be performed; sixty characters with five commands. */
    private static final String SIXTY = "dancer 00*20;figure 0:UDUDUDUDUDUD;perform 0 0;nails 0;leave";
    private static final String POSITION =
            "is the index of the first character at which no program can continue, or the length of the text";
    private static final String CORRESPOND = "The commands correspond to addProp(x, y)";
    private static final String FAILS = "if a command fails, that is, if a method for it throws an exception";

    private ProgramBounds() {
    }

    static void test() {
        type();
        run();
        emptyAfterwards();
        grammar();
        commandsAsCalls();
        failingCommands();
        brokenTexts();
        digitsAndNumbers();
        errorPosition();
        failedCommand();
        orderOfExceptions();
    }

    private static String typed(String text) {
        return "type \"" + text + "\"\n";
    }

    private static void type() {
        StringBuilder counted = new StringBuilder();
        for (int k = 1; k <= 60; k++) {
            counted.append("type('e') = ").append(k).append('\n');
        }
        String full = "Throws `IllegalStateException` if the buffer contains 60 characters";
        Sentence.holds(48, "Returns the number of characters in the buffer afterwards.", counted
                + "type('e') = throws.IllegalStateException\n");
        Sentence.holds(48, full, counted + Lines.each("type(#N)", "throws.IllegalStateException", 'e', ';', 0, 65535)
                + "run() = throws.IllegalArgumentException\nerrorPosition() = 1\n" + counted
                + "type('e') = throws.IllegalStateException\n");
        // The refused character is not in the text.
        Sentence.holds(48, full, "addExit(0, 0) = 0\n" + typed(SIXTY) + """
                type(';') = throws.IllegalStateException
                type('!') = throws.IllegalStateException
                run() = 5
                dancers() = 0
                lostNails() = 12
                type('l') = 1
                """);
        Sentence.holds(48, "Appends a character to the program buffer.", """
                type('l') = 1
                type('e') = 2
                addProp(1, 1) = 1
                type('a') = 3
                undo() = 0
                type('v') = 4
                writeRow(0) = 8
                save() = 0
                type('e') = 5
                restore() = 0
                addExit(0, 0) = 0
                addDancer(0, 1, 0) = 0
                run() = 1
                dancers() = 0
                """);
        StringBuilder any = new StringBuilder();
        int[] characters = {0, 1, 10, 13, 32, 127, 128, 255, 256, 0xD800, 0xDFFF, 0xFFFE, 65535};
        for (int k = 0; k < characters.length; k++) {
            any.append("type(#").append(characters[k]).append(") = ").append(k + 1).append('\n');
        }
        Sentence.holds(48, "Returns the number of characters in the buffer afterwards.", any
                + "run() = throws.IllegalArgumentException\nerrorPosition() = 0\ntype('x') = 1\n");
    }

    private static void run() {
        String none = "executes the commands in order, either all of them or, if one of them fails, none";
        Sentence.holds(49, none, typed("dancer 00*3;prop 02;figure 0:UU;walk 0>01;figure 0:R") + """
                run() = 5
                isPresent(0) = true
                row(0) = 1
                isFree(0, 2) = false
                figureLength(0) = 1
                nails(0) = 2
                """);
        Sentence.holds(49, none, typed("prop 00;dancer 11*5;walk 0>12;exit 33;figure 2:UD;prop 00") + """
                run() = throws.UnsupportedOperationException
                failedCommand() = 5
                isFree(0, 0) = true
                dancers() = 0
                exits() = 0
                figureLength(2) = 0
                lostNails() = 0
                addDancer(0, 0, 0) = 0
                """);
        // The same commands in the other order fail at the first one.
        Sentence.holds(49, none, typed("walk 0>12;dancer 11*5") + """
                run() = throws.UnsupportedOperationException
                failedCommand() = 0
                dancers() = 0
                """);
        String number = "Returns the number of commands.";
        for (int commands = 1; commands <= 7; commands++) {
            Sentence.holds(49, number, "addDancer(0, 0, 20) = 0\n"
                    + typed("nails 0;".repeat(commands).substring(0, 8 * commands - 1)) + "run() = " + commands
                    + "\nundo() = 1\n");
        }
        Sentence.holds(49, number, "addExit(0, 0) = 0\n" + typed(SIXTY) + "run() = 5\n");
        // Ten commands are the most that sixty characters hold.
        Sentence.holds(49, number, "addExit(0, 0) = 0\naddDancer(0, 0, 20) = 0\n"
                + typed("leave;".repeat(10).substring(0, 59)) + """
                run() = throws.UnsupportedOperationException
                failedCommand() = 1
                dancers() = 1
                """);
    }

    private static void emptyAfterwards() {
        String empty = "The buffer is empty afterwards in every case.";
        Sentence.holds(49, empty, typed("prop 00") + "run() = 1\ntype('p') = 1\n");
        Sentence.holds(49, empty, typed("prop 80") + "run() = throws.UnsupportedOperationException\ntype('p') = 1\n");
        Sentence.holds(49, empty, typed("prop") + "run() = throws.IllegalArgumentException\ntype('p') = 1\n");
        Sentence.holds(49, empty, "run() = throws.IllegalArgumentException\nerrorPosition() = 0\ntype('p') = 1\n");
        Sentence.holds(49, empty, typed("prop 00") + """
                run() = 1
                run() = throws.IllegalArgumentException
                errorPosition() = 0
                run() = throws.IllegalArgumentException
                """ + typed("prop 10") + "run() = 1\n");
        String except = "except that run() empties the program buffer and records a syntax error or a failed command";
        Sentence.holds(Sentence.TERMS, except, "addProp(0, 0) = 1\n" + typed("prop 77;prop 7") + """
                run() = throws.IllegalArgumentException
                errorPosition() = 14
                failedCommand() = throws.NoSuchElementException
                type('x') = 1
                run() = throws.IllegalArgumentException
                errorPosition() = 0
                isFree(7, 7) = true
                undo() = 0
                """);
        Sentence.holds(Sentence.TERMS, except, "addProp(0, 0) = 1\n" + typed("prop 77;prop 00") + """
                run() = throws.UnsupportedOperationException
                failedCommand() = 1
                errorPosition() = throws.NoSuchElementException
                type('x') = 1
                isFree(7, 7) = true
                undo() = 0
                """);
    }

    private static void grammar() {
        String program = "`program = command { \";\" command`}";
        Sentence.holds(Sentence.TERMS, program, typed("exit 00") + "run() = 1\n" + typed("exit 10;exit 20;exit 30")
                + "run() = 3\nexits() = 4\n");
        position(program, "exit 00;", 8);
        position(program, ";exit 00", 0);
        position(program, "exit 00;;exit 11", 8);
        position(program, "exit 00; exit 11", 8);
        position(program, "exit 00 ;exit 11", 7);
        position(program, "exit 00,exit 11", 7);
        position(program, "exit 00exit 11", 7);
        String moves = "`move = \"U\" | \"D\" | \"L\" | \"R\" | \"S\"`";
        Sentence.holds(Sentence.TERMS, moves, typed("figure 0:UDLRS") + "run() = 1\nwriteFigure(0) = 5\nline = \"UDLRS\"\n");
        for (int sign = 1; sign < 128; sign++) {
            if ("UDLRS;\n".indexOf(sign) < 0) {
                position(moves, "figure 0:U" + (char) sign + "D", 10);
            }
        }
        String number = "`number = digit [ digit ]`";
        for (String text : new String[] {"0", "7", "9", "00", "07", "10", "20", "99"}) {
            // All of these are numbers; only those of dancers can be renewed.
            boolean there = Integer.parseInt(text) < 8;
            Sentence.holds(Sentence.TERMS, number, Lines.dancers(8, 0, 1) + typed("nails " + text)
                    + (there ? "run() = 1\nnails(" + Integer.parseInt(text) + ") = 20\n"
                    : "run() = throws.UnsupportedOperationException\nfailedCommand() = 0\n"));
        }
        position(number, "nails ", 6);
        position(number, "nails -1", 6);
        position(number, "nails +1", 6);
        position(number, "nails 000", 8);
        position(number, "nails 1 ", 7);
        position(number, "nails 1.", 7);
        position(number, "nails ;", 6);
    }

    private static void digitsAndNumbers() {
        String digits = "where two digits in a row are x and y";
        Sentence.holds(Sentence.TERMS, digits, typed("prop 17;dancer 62*0;exit 34") + """
                run() = 3
                isFree(1, 7) = false
                isFree(7, 1) = true
                column(0) = 6
                row(0) = 2
                exitDistance(0, 0) = 5
                renewNails(0) = 0
                """ + typed("walk 0>51") + "run() = 1\ncolumn(0) = 5\nrow(0) = 1\n");
        // Only the ten signs from 0 to 9 are digits.
        for (int sign : new int[] {'0' - 1, '9' + 1, 0x0660, 0x0661, 0xFF11, '0' + 256, 'U', ' ', 0}) {
            position(digits, "prop " + (char) sign + "1", 5);
            position(digits, "prop 1" + (char) sign, 6);
            position(digits, "walk 1" + (char) sign + "11", 6);
            position(digits, "figure " + (char) sign + ":", 7);
        }
        Sentence.holds(Sentence.TERMS, digits, typed("prop 00;prop 77") + "run() = 2\n" + typed("prop 08")
                + "run() = throws.UnsupportedOperationException\n" + typed("prop 80")
                + "run() = throws.UnsupportedOperationException\n" + typed("prop 99")
                + "run() = throws.UnsupportedOperationException\n");
    }

    private static void commandsAsCalls() {
        String setup = Lines.dancers(3, 0, 15) + Lines.exits(3, 1) + "addMove(2, 'U')\naddMove(2, 'S')\n";
        String[][] commands = {
            {"prop 76", "addProp(7, 6)"}, {"dancer 76*9", "addDancer(7, 6, 9)"},
            {"dancer 67*0", "addDancer(6, 7, 0)"}, {"dancer 67*20", "addDancer(6, 7, 20)"},
            {"dancer 67*05", "addDancer(6, 7, 5)"}, {"pair 0&2", "pair(0, 2)"}, {"pair 02&01", "pair(2, 1)"},
            {"perform 2 1", "perform(2, 1)"}, {"perform 2 02", "perform(2, 2)"}, {"perform 0 0", "perform(0, 0)"},
            {"walk 2>75", "walk(2, 7, 5)"}, {"walk 01>10", "walk(1, 1, 0)"}, {"exit 76", "addExit(7, 6)"},
            {"nails 1", "renewNails(1)"}, {"nails 02", "renewNails(2)"}, {"leave", "leaveAll()"},
            {"figure 5:", "clearFigure(5)"}, {"figure 2:", "clearFigure(2)"},
            {"figure 2:L", "clearFigure(2)\naddMove(2, 'L')"},
            {"figure 0:UDLRSUDLRSUD", "clearFigure(0)\n" + Lines.moves(0, "UDLRSUDLRSUD")}};
        String command = "`command = \"prop \" digit digit | \"dancer \" digit digit \"*\" number";
        for (String[] pair : commands) {
            for (String words : new String[] {command, CORRESPOND}) {
                Sentence.holds(Sentence.TERMS, words, setup + typed(pair[0]) + "run() = 1\nundo() = 7\n");
            }
            Twin.sameState(pair[0], List.of((setup + typed(pair[0]) + "run()").split("\n")),
                    List.of((setup + pair[1]).split("\n")));
        }
    }

    private static void failingCommands() {
        String[][] failing = {
            {"", "prop 80"}, {"", "prop 08"}, {"", "prop 99"}, {"addProp(3, 3)\n", "prop 33"},
            {"addDancer(3, 3, 0)\n", "prop 33"}, {Lines.props(20), "prop 77"},
            {"", "dancer 80*5"}, {"", "dancer 08*5"}, {"", "dancer 00*21"}, {"", "dancer 00*99"},
            {"addProp(3, 3)\n", "dancer 33*5"}, {"addDancer(3, 3, 0)\n", "dancer 33*5"},
            {Lines.dancers(8, 0, 5), "dancer 77*5"},
            {"", "pair 0&1"}, {Lines.dancers(2, 0, 5), "pair 0&2"}, {Lines.dancers(2, 0, 5), "pair 2&0"},
            {Lines.dancers(2, 0, 5), "pair 1&1"}, {Lines.dancers(3, 0, 5) + "pair(0, 1)\n", "pair 0&2"},
            {Lines.dancers(3, 0, 5) + "pair(0, 1)\n", "pair 2&1"},
            {"", "figure 6:"}, {"", "figure 9:UU"}, {"", "figure 0:UUUUUUUUUUUUU"},
            {Lines.moves(0, "UUUUUUUUUUUU"), "figure 0:SSSSSSSSSSSSS"},
            {Lines.dancers(1, 0, 5), "perform 6 0"}, {Lines.dancers(1, 0, 5), "perform 0 1"},
            {Lines.dancers(1, 0, 5) + Lines.moves(0, "D"), "perform 0 0"},
            {"", "walk 0>00"}, {Lines.dancers(1, 0, 5), "walk 0>80"}, {Lines.dancers(1, 0, 5), "walk 0>08"},
            {Lines.dancers(2, 0, 5), "walk 0>10"}, {Lines.dancers(1, 0, 5) + "addProp(1, 1)\n", "walk 0>11"},
            {Lines.dancers(1, 0, 5), "walk 0>06"},
            {"", "exit 80"}, {"", "exit 08"}, {"addExit(0, 0)\n", "exit 00"}, {Lines.exits(6, 0), "exit 77"},
            {"", "nails 0"}, {Lines.dancers(1, 0, 5), "nails 1"}, {Lines.dancers(1, 0, 5), "nails 99"},
            {"", "leave"}, {Lines.dancers(1, 0, 5), "leave"}, {Lines.exits(6, 0), "leave"}};
        for (String[] pair : failing) {
            Sentence.holds(49, FAILS, pair[0] + typed(pair[1])
                    + "run() = throws.UnsupportedOperationException\nfailedCommand() = 0\n");
            // Commands before it are undone, commands after it are not executed.
            Sentence.holds(49, FAILS, pair[0] + typed("figure 4:S;figure 5:U;" + pair[1] + ";figure 3:")
                    + "run() = throws.UnsupportedOperationException\nfailedCommand() = 2\nfigureLength(4) = 0\n"
                    + "errorPosition() = throws.NoSuchElementException\n");
        }
        // A command may fail by what an earlier one did, and succeed by it.
        Sentence.holds(49, FAILS, typed("prop 33;dancer 33*5") + "run() = throws.UnsupportedOperationException\n"
                + "failedCommand() = 1\n" + typed("dancer 33*5;nails 0;leave") + """
                run() = throws.UnsupportedOperationException
                failedCommand() = 2
                dancers() = 0
                """ + typed("exit 33;dancer 33*5;nails 0;leave") + "run() = 4\ndancers() = 0\n");
    }

    /** Types a text that is not a program, and asks for its error position; the words are of the terms. */
    private static void position(String words, String text, int position) {
        position(Sentence.TERMS, words, text, position);
    }

    private static void position(int promise, String words, String text, int position) {
        StringBuilder lines = new StringBuilder();
        for (int k = 0; k < text.length(); k++) {
            lines.append("type(#").append((int) text.charAt(k)).append(") = ").append(k + 1).append('\n');
        }
        Sentence.holds(promise, words, lines + "run() = throws.IllegalArgumentException\nerrorPosition() = "
                + position + "\nfailedCommand() = throws.NoSuchElementException\ntype('x') = 1\n");
    }

    private static void brokenTexts() {
        String notProgram = "if the text is not a program; its error position is recorded";
        String[] commands = {"prop 11", "dancer 22*13", "pair 12&34", "figure 5:UDLRS", "perform 5 67", "walk 12>34",
            "exit 55", "nails 12", "leave"};
        // Each proper beginning of a program that is not one itself, alone and behind another command.
        String whole = "figure 5: dancer 22*1 pair 12&3 perform 5 6 nails 1";
        for (String command : commands) {
            for (int length = 0; length < command.length(); length++) {
                String begin = command.substring(0, length);
                boolean program = whole.contains(begin) && length > 6 || begin.startsWith("figure 5:");
                if (!program) {
                    position(POSITION, begin, length);
                    position(49, notProgram, "leave;" + begin, 6 + length);
                }
            }
            // A wrong character at each index, and one too many at the end.
            for (int index = 0; index <= command.length(); index++) {
                for (char wrong : new char[] {'!', 'X', '\0', '\uffff', '\u00e9'}) {
                    String rest = command.substring(Math.min(command.length(), index + 1));
                    position(POSITION, command.substring(0, index) + wrong + rest, index);
                }
                position(49, notProgram, "leave;" + command.substring(0, index) + "#", 6 + index);
            }
        }
        position(POSITION, "", 0);
        position(POSITION, "leave;".repeat(10), 60);
        position(POSITION, "leave;".repeat(9) + "leave.", 59);
        position(POSITION, "leave;".repeat(9) + "leav", 58);
        position(POSITION, "leave;".repeat(9) + "leaves", 59);
        position(POSITION, "x".repeat(60), 0);
        position(POSITION, "prop 00;".repeat(7) + "prop", 60);
        position(POSITION, "figure 0:" + "S".repeat(50) + ";", 60);
        position(POSITION, "figure 0:" + "S".repeat(50) + "s", 59);
        String[] beginnings = {"p", "pa", "pr", "pe", "w", "d", "f", "e", "n", "l"};
        for (String beginning : beginnings) {
            position(POSITION, beginning, beginning.length());
            position(POSITION, beginning + "x", beginning.equals("e") ? 2 : beginning.length());
            position(POSITION, beginning + ";", beginning.length());
        }
        position(POSITION, "PROP 11", 0);
        position(POSITION, "pROP 11", 1);
        position(POSITION, "prop\t11", 4);
        position(POSITION, "perorm 1 1", 3);
        position(POSITION, "prir 1&1", 2);
        position(POSITION, "paop 11", 2);
        position(POSITION, "walk 1>1>1", 8);
        position(POSITION, "dancer 111*1", 9);
        position(POSITION, "pair 1&1&1", 8);
        position(POSITION, "perform 1  1", 10);
        position(POSITION, "figure 0:U U", 10);
        position(POSITION, "leaveleave", 5);
    }

    private static void errorPosition() {
        for (String words : new String[] {"Returns the recorded error position of the latest text",
            "Returns the error position."}) {
            Sentence.holds(50, words, typed("prop ") + "run() = throws.IllegalArgumentException\nerrorPosition() = 5\n"
                    + typed("prop 0") + "run() = throws.IllegalArgumentException\nerrorPosition() = 6\n"
                    + "save() = 0\n" + typed("prop 00") + "run() = 1\nerrorPosition() = 6\n" + typed("prop 00")
                    + """
                    run() = throws.UnsupportedOperationException
                    errorPosition() = 6
                    undo() = 0
                    errorPosition() = 6
                    restore() = 0
                    errorPosition() = 6
                    run() = throws.IllegalArgumentException
                    errorPosition() = 0
                    """);
        }
        Sentence.holds(50, "Throws `NoSuchElementException` if there was no such text",
                "errorPosition() = throws.NoSuchElementException\n" + typed("leave") + """
                errorPosition() = throws.NoSuchElementException
                run() = throws.UnsupportedOperationException
                errorPosition() = throws.NoSuchElementException
                """ + typed("prop 00") + "run() = 1\nerrorPosition() = throws.NoSuchElementException\n"
                + typed("x") + "errorPosition() = throws.NoSuchElementException\n"
                + "run() = throws.IllegalArgumentException\nerrorPosition() = 0\n");
    }

    private static void failedCommand() {
        for (String words : new String[] {"Returns the recorded number of the latest command that failed in a program.",
            "Returns the number of the command."}) {
            Sentence.holds(51, words, typed("prop 00;prop 10;prop 00") + """
                    run() = throws.UnsupportedOperationException
                    failedCommand() = 2
                    save() = 0
                    """ + typed("prop 00;prop 10") + "run() = 2\nfailedCommand() = 2\n" + typed("prop") + """
                    run() = throws.IllegalArgumentException
                    failedCommand() = 2
                    undo() = 0
                    failedCommand() = 2
                    restore() = 0
                    failedCommand() = 2
                    """ + typed("leave") + "run() = throws.UnsupportedOperationException\nfailedCommand() = 0\n");
            // Six commands succeed, and the last one that the buffer holds fails; so does a first one.
            Sentence.holds(51, words, "addDancer(0, 0, 0) = 0\n" + typed("nails 0;".repeat(6) + "nails 1")
                    + "run() = throws.UnsupportedOperationException\nfailedCommand() = 6\nnails(0) = 0\n"
                    + typed("nails 1;".repeat(6) + "nails 1")
                    + "run() = throws.UnsupportedOperationException\nfailedCommand() = 0\n");
        }
        Sentence.holds(51, "Throws `NoSuchElementException` if no command failed",
                "failedCommand() = throws.NoSuchElementException\naddProp(8, 0) = throws.IndexOutOfBoundsException\n"
                + "failedCommand() = throws.NoSuchElementException\n" + typed("prop 80;") + """
                run() = throws.IllegalArgumentException
                failedCommand() = throws.NoSuchElementException
                """ + typed("prop 00") + "run() = 1\nfailedCommand() = throws.NoSuchElementException\n"
                + typed("prop 00") + "run() = throws.UnsupportedOperationException\nfailedCommand() = 0\n");
    }

    private static void orderOfExceptions() {
        String order = "the exception that is listed first is thrown";
        List<String> failing = new ArrayList<>(List.of("prop 80", "leave", "nails 99", "walk 0>00", "figure 9:"));
        for (String command : failing) {
            // A text that is not a program is not executed, wherever its error is.
            Sentence.holds(Sentence.TERMS, order, typed(command + ";") + "run() = throws.IllegalArgumentException\n"
                    + "errorPosition() = " + (command.length() + 1)
                    + "\nfailedCommand() = throws.NoSuchElementException\n");
            Sentence.holds(Sentence.TERMS, order, typed("prop 00;" + command + ";x")
                    + "run() = throws.IllegalArgumentException\nerrorPosition() = " + (command.length() + 9)
                    + "\nfailedCommand() = throws.NoSuchElementException\nisFree(0, 0) = true\n");
        }
    }
}
