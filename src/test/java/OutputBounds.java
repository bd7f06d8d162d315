/** The sentences about the output line: promises 45 to 47. */
final class OutputBounds {
    private OutputBounds() {
    }

    static void test() {
        writeRow();
        writeFigure();
        charAt();
    }

    private static void writeRow() {
        String writes = "\"#\" if the cell has a prop, otherwise the last digit of the number of the dancer";
        StringBuilder empty = new StringBuilder();
        for (int y = 0; y < 8; y++) {
            empty.append("writeRow(").append(y).append(") = 8\nline = \"........\"\n");
        }
        Sentence.holds(45, writes, empty + "addExit(0, 0) = 0\n" + empty);
        Sentence.holds(45, writes, Lines.props(20) + Lines.dancers(8, 7, 0) + """
                addExit(0, 7) = 0
                addExit(0, 0) = 1
                writeRow(0) = 8
                line = "########"
                writeRow(2) = 8
                line = "####...."
                writeRow(7) = 8
                line = "01234567"
                writeRow(6) = 8
                line = "........"
                """);
        // Numbers with two digits show their last one.
        StringBuilder many = new StringBuilder();
        for (int k = 0; k < 22; k++) {
            many.append("addDancer(").append(k % 8).append(", 3, 0) = ").append(k).append("\nwriteRow(3) = 8\n")
                    .append("line = \"").append(".".repeat(k % 8)).append(k % 10).append(".".repeat(7 - k % 8))
                    .append("\"\nremoveDancer(").append(k).append(") = 0\n");
        }
        Sentence.holds(45, writes, many.toString());
        String length = "Returns the length of the line, 8.";
        Sentence.holds(45, length, Lines.moves(0, "UDUDUDUDUDUD") + """
                writeFigure(0) = 12
                line = "UDUDUDUDUDUD"
                writeRow(0) = 8
                line = "........"
                writeFigure(1) = 0
                line = ""
                writeRow(7) = 8
                line = "........"
                """);
        Sentence.holds(45, "Throws `IndexOutOfBoundsException` if there is no such row", """
                addProp(0, 0) = 1
                addProp(7, 7) = 2
                writeRow(0) = 8
                line = "#......."
                writeRow(7) = 8
                line = ".......#"
                """ + Lines.each("writeRow(N)", "throws.IndexOutOfBoundsException", -1, 8, 9, 64, 256, 1 << 29,
                Lines.LEAST, Lines.MOST) + "line = \".......#\"\n");
    }

    private static void writeFigure() {
        String writes = "where several equal moves in a row are written as their number and the move";
        String[] figures = {"", "U", "UU", "UUURRRDDDLLL", "SSSSSSSSSSSS", "RRRRRRRRRRR", "LLLLLLLLLL", "DDDDDDDDD",
            "DDDDDDDDDD", "DDDDDDDDDDU", "UDDDDDDDDDDD", "UURSLLL", "UDLRSUDLRSUD", "SSUUSSUUSSUU", "USSU", "UUDU", "LRRL",
            "SSSSSSSSSSU", "USSSSSSSSSS"};
        String[] lines = {"", "U", "2U", "3U3R3D3L", "12S", "11R", "10L", "9D",
            "10D", "10DU", "U11D", "2URS3L", "UDLRSUDLRSUD", "2S2U2S2U2S2U", "U2SU", "2UDU", "L2RL",
            "10SU", "U10S"};
        for (int k = 0; k < figures.length; k++) {
            Sentence.holds(46, writes, Lines.moves(k % 6, figures[k]) + "writeFigure(" + k % 6 + ") = "
                    + lines[k].length() + "\nline = \"" + lines[k] + "\"\n");
        }
        Sentence.holds(46, "Returns the length of the line.", Lines.moves(0, "UURSLLL") + """
                writeRow(0) = 8
                writeFigure(0) = 6
                line = "2URS3L"
                writeFigure(5) = 0
                line = ""
                addMove(0, 'L') = 8
                line = ""
                writeFigure(0) = 6
                line = "2URS4L"
                clearFigure(0) = 8
                line = "2URS4L"
                writeFigure(0) = 0
                line = ""
                """);
        Sentence.holds(46, "Throws `IndexOutOfBoundsException` if there is no such figure", Lines.moves(0, "UU")
                + Lines.moves(5, "DDD") + "writeFigure(0) = 2\nline = \"2U\"\nwriteFigure(5) = 2\nline = \"3D\"\n"
                + Lines.noFigures("writeFigure(N)") + "line = \"3D\"\n");
    }

    private static void charAt() {
        String empty = "Returns a character of the output line, which is initially empty.";
        Sentence.holds(47, empty, "line = \"\"\n" + Lines.each("charAt(N)", "throws.IndexOutOfBoundsException", 0, 1, -1));
        Sentence.holds(47, empty, Lines.dancers(8, 0, 0) + "line = \"\"\nwriteRow(0) = 8\nline = \"01234567\"\n"
                + "addDancer(0, 1, 0) = throws.IllegalStateException\nremoveDancer(0) = 7\nline = \"01234567\"\n");
        Sentence.holds(47, "the index, counted from 0", Lines.moves(0, "UDLRSUDLRSUD") + "writeFigure(0) = 12\n"
                + "charAt(0) = U\ncharAt(1) = D\ncharAt(4) = S\ncharAt(11) = D\n");
        Sentence.holds(47, "Returns the character.", Lines.moves(0, "SSSSSSSSSSSS") + "writeFigure(0) = 3\n"
                + "charAt(0) = 1\ncharAt(1) = 2\ncharAt(2) = S\n");
        String outside = "Throws `IndexOutOfBoundsException` if the index is negative or not less than the length";
        for (int length = 0; length <= 12; length++) {
            String figure = "UDLRSUDLRSUD".substring(0, length);
            Sentence.holds(47, outside, Lines.moves(0, "UDUDUDUDUDUD") + Lines.moves(1, figure) + "writeFigure(0) = 12\n"
                    + "writeFigure(1) = " + length + "\n" + (length == 0 ? ""
                    : "charAt(0) = U\ncharAt(" + (length - 1) + ") = " + figure.charAt(length - 1) + "\n")
                    + Lines.each("charAt(N)", "throws.IndexOutOfBoundsException", length, length + 1, 12, 13, -1, -2,
                    Lines.LEAST, Lines.MOST));
        }
        Sentence.holds(47, outside, "writeRow(0) = 8\ncharAt(7) = .\ncharAt(0) = .\n"
                + Lines.each("charAt(N)", "throws.IndexOutOfBoundsException", 8, -1, 11, 12, Lines.LEAST, Lines.MOST));
    }
}
