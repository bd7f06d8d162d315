/** The sentences about figures and performing: promises 20 to 24, and their terms. */
final class FigureBounds {
    private static final String NO_FIGURE = "Throws `IndexOutOfBoundsException` if there is no such figure";
    private static final String NO_DANCER = "Throws `NoSuchElementException` if there is no such dancer";
    private static final String BLOCKED = "A beat is blocked if one of the two would have to move";

    private FigureBounds() {
    }

    static void test() {
        addMove();
        clearFigure();
        figureLength();
        figuresInTheTerms();
        moves();
        perform();
        blockedBeat();
        withoutNails();
        edgesOfTheStage();
        props();
        otherDancers();
        bothAtOneCell();
        oneAfterTheOther();
        lossOfNails();
        orderOfExceptions();
    }

    private static void addMove() {
        Sentence.holds(20, "Appends a move to a figure.", "addMove(2, 'U') = 1\naddMove(2, 'L') = 2\n"
                + "addMove(2, 'U') = 3\naddMove(1, 'S') = 1\nwriteFigure(2) = 3\nline = \"ULU\"\n"
                + "writeFigure(1) = 1\nline = \"S\"\nwriteFigure(3) = 0\nline = \"\"\n");
        String letters = "one of the letters U, D, L, R and S";
        Sentence.holds(20, letters, Lines.moves(0, "UDLRS") + "writeFigure(0) = 5\nline = \"UDLRS\"\n");
        StringBuilder others = new StringBuilder();
        for (int sign = 0; sign < 128; sign++) {
            if ("UDLRS".indexOf(sign) < 0) {
                others.append("addMove(0, #").append(sign).append(") = throws.IllegalArgumentException\n");
            }
        }
        String noMove = "Throws `IllegalArgumentException` if there is no such move";
        Sentence.holds(20, noMove, others + "figureLength(0) = 0\n");
        // Characters whose lower or upper byte is that of a move, and the ones at the end of the range.
        Sentence.holds(20, noMove, Lines.each("addMove(0, #N)", "throws.IllegalArgumentException", 'U' + 256,
                'D' + 256, 'L' + 512, 'R' + 256, 'S' + 32768, 'U' << 8, 'S' << 8, 128, 'U' + 128, 255, 65535, 65534)
                + "figureLength(0) = 0\n");
        StringBuilder counted = new StringBuilder();
        for (int figure = 0; figure < 6; figure++) {
            counted.append(Lines.moves(figure, "UUUUUUDDDDDD"));
        }
        Sentence.holds(20, "Returns the number of moves of the figure afterwards.", counted.toString());
        Sentence.holds(20, NO_FIGURE, "addMove(0, 'U') = 1\naddMove(5, 'U') = 1\n"
                + Lines.noFigures("addMove(N, 'U')") + "addMove(0, 'U') = 2\naddMove(5, 'U') = 2\n");
        String full = "Throws `IllegalStateException` if the figure has 12 moves";
        Sentence.holds(20, full, Lines.moves(5, "UUUUUUUUUUU") + """
                addMove(5, 'D') = 12
                addMove(5, 'U') = throws.IllegalStateException
                addMove(5, 'S') = throws.IllegalStateException
                figureLength(5) = 12
                addMove(4, 'L') = 1
                clearFigure(5) = 12
                addMove(5, 'U') = 1
                """);
        Sentence.holds(20, full, counted + Lines.each("addMove(N, 'R')", "throws.IllegalStateException",
                0, 1, 2, 3, 4, 5));
    }

    private static void clearFigure() {
        Sentence.holds(21, "Removes all moves of a figure.", Lines.moves(1, "UD") + Lines.moves(2, "LRLRLRLRLRLR")
                + Lines.moves(3, "S") + "clearFigure(2) = 12\nfigureLength(2) = 0\nwriteFigure(2) = 0\n"
                + "line = \"\"\nfigureLength(1) = 2\nfigureLength(3) = 1\n" + Lines.moves(2, "U")
                + "writeFigure(2) = 1\nline = \"U\"\n");
        Sentence.holds(21, "Returns the number of moves that were removed.", Lines.moves(0, "S")
                + Lines.moves(5, "SSSSSSSSSSSS") + """
                clearFigure(0) = 1
                clearFigure(0) = 0
                clearFigure(5) = 12
                clearFigure(5) = 0
                clearFigure(3) = 0
                """);
        Sentence.holds(21, NO_FIGURE, Lines.moves(0, "U") + Lines.moves(5, "D") + Lines.noFigures("clearFigure(N)")
                + "clearFigure(0) = 1\nclearFigure(5) = 1\n");
    }

    private static void figureLength() {
        for (String words : new String[] {"Returns the number of moves of a figure.",
            "Returns the number of moves."}) {
            StringBuilder lengths = new StringBuilder("figureLength(3) = 0\n");
            for (int k = 1; k <= 12; k++) {
                lengths.append("addMove(3, 'S') = ").append(k).append("\nfigureLength(3) = ").append(k)
                        .append('\n');
            }
            Sentence.holds(22, words, lengths + "addMove(3, 'S') = throws.IllegalStateException\n"
                    + "figureLength(3) = 12\nfigureLength(2) = 0\nfigureLength(4) = 0\nundo() = 7\n"
                    + "figureLength(3) = 11\n");
        }
        Sentence.holds(22, NO_FIGURE, Lines.moves(0, "U") + Lines.moves(5, "DD") + "figureLength(0) = 1\n"
                + "figureLength(5) = 2\n" + Lines.noFigures("figureLength(N)"));
    }

    private static void figuresInTheTerms() {
        StringBuilder all = new StringBuilder();
        for (int figure = 0; figure < 6; figure++) {
            all.append(Lines.moves(figure, "UDLRSUDLRSUD".substring(0, 2 * figure + 1)));
        }
        for (int figure = 0; figure < 6; figure++) {
            all.append("figureLength(").append(figure).append(") = ").append(2 * figure + 1).append('\n');
        }
        String figures = "There are the figures 0 to 5.";
        Sentence.holds(Sentence.TERMS, figures, all + Lines.noFigures("figureLength(N)"));
        Sentence.holds(Sentence.TERMS, figures, """
                type "figure 5:S;figure 6:S"
                run() = throws.UnsupportedOperationException
                failedCommand() = 1
                type "figure 6:"
                run() = throws.UnsupportedOperationException
                failedCommand() = 0
                type "figure 5:S;figure 0:S"
                run() = 2
                figureLength(5) = 1
                """);
        String atMost = "A figure is a sequence of at most 12 moves, initially none.";
        Sentence.holds(Sentence.TERMS, atMost, Lines.each("figureLength(N)", "0", 0, 1, 2, 3, 4, 5));
        Sentence.holds(Sentence.TERMS, atMost, """
                type "figure 0:UUUUUUUUUUUUU"
                run() = throws.UnsupportedOperationException
                failedCommand() = 0
                figureLength(0) = 0
                type "figure 0:UUUUUUUUUUUU;figure 0:UDUDUDUDUDUD"
                run() = 2
                figureLength(0) = 12
                writeFigure(0) = 12
                addMove(0, 'U') = throws.IllegalStateException
                """);
    }

    private static void moves() {
        String steps = "A move is one of the letters U (up, y increases by 1)";
        for (int k = 0; k < 5; k++) {
            int column = k == 2 ? 2 : k == 3 ? 4 : 3;
            int row = k == 0 ? 4 : k == 1 ? 2 : 3;
            Sentence.holds(Sentence.TERMS, steps, "addDancer(3, 3, 9) = 0\n" + Lines.moves(0, "UDLRS".substring(k, k + 1))
                    + "perform(0, 0) = " + (k == 4 ? 0 : 1) + "\ncolumn(0) = " + column + "\nrow(0) = " + row
                    + "\nnails(0) = " + (k == 4 ? 9 : 8) + "\n");
            // The partner stands at 5, 5.
            Sentence.holds(Sentence.TERMS, "The mirrored move of L is R, the one of R is L", "addDancer(3, 3, 9) = 0\n"
                    + "addDancer(5, 5, 8) = 1\npair(0, 1) = 1\n" + Lines.moves(0, "UDLRS".substring(k, k + 1))
                    + "perform(0, 0) = " + (k == 4 ? 0 : 2) + "\ncolumn(0) = " + column + "\nrow(0) = " + row
                    + "\ncolumn(1) = " + (8 - column) + "\nrow(1) = " + (row + 2)
                    + "\nnails(1) = " + (k == 4 ? 8 : 7) + "\n");
        }
    }

    private static void perform() {
        Sentence.holds(23, "Lets a dancer perform a figure.", "addDancer(0, 0, 20) = 0\n"
                + Lines.moves(2, "UURDRSSLUURR") + """
                perform(2, 0) = 10
                column(0) = 3
                row(0) = 3
                nails(0) = 10
                lostNails() = 10
                isFree(0, 0) = true
                isFree(3, 3) = false
                """);
        String together = "Returns the number of nails that the dancer and the partner lose together.";
        Sentence.holds(23, together, Lines.moves(0, "U") + Lines.moves(1, "SSS") + Lines.moves(2, "RRRRRRLLLLLL")
                + """
                addDancer(0, 0, 20) = 0
                addDancer(7, 7, 20) = 1
                perform(3, 0) = 0
                perform(1, 0) = 0
                perform(0, 0) = 1
                perform(2, 0) = 12
                pair(0, 1) = 1
                removeDancer(1) = 1
                addDancer(7, 1, 20) = 2
                pair(0, 2) = 1
                perform(3, 0) = 0
                perform(1, 2) = 0
                perform(0, 0) = 2
                perform(0, 2) = 2
                nails(0) = 5
                nails(2) = 18
                """);
        Sentence.holds(23, together, Lines.moves(0, "UDUDUDUDUDUD") + """
                addDancer(0, 0, 12) = 0
                addDancer(7, 7, 12) = 1
                addDancer(7, 0, 12) = 2
                pair(2, 0) = 1
                perform(0, 0) = 24
                nails(0) = 0
                nails(2) = 0
                nails(1) = 12
                """);
        Sentence.holds(23, NO_FIGURE, "addDancer(0, 0, 20) = 0\nperform(0, 0) = 0\nperform(5, 0) = 0\n"
                + Lines.noFigures("perform(N, 0)"));
        Sentence.holds(23, NO_DANCER, "perform(0, 0) = throws.NoSuchElementException\n" + Lines.moves(0, "U")
                + "perform(0, 0) = throws.NoSuchElementException\n" + Lines.dancers(2, 0, 5)
                + Lines.noDancers("perform(0, N)") + Lines.noDancers("perform(5, N)")
                + "perform(0, 2) = throws.NoSuchElementException\nremoveDancer(0) = 1\n"
                + "perform(0, 0) = throws.NoSuchElementException\nperform(0, 1) = 1\n");
        // A figure that is blocked at its last beat is not performed at all.
        String cannot = "Throws `UnsupportedOperationException` if the figure cannot be performed";
        Sentence.holds(23, cannot, Lines.moves(0, "RRRRRRRRLLLL") + Lines.moves(1, "RRRRRRRLLLLL") + """
                addDancer(0, 0, 12) = 0
                perform(0, 0) = throws.UnsupportedOperationException
                column(0) = 0
                nails(0) = 12
                lostNails() = 0
                perform(1, 0) = 12
                column(0) = 2
                nails(0) = 0
                """);
        Sentence.holds(23, cannot, Lines.moves(0, "RUUUUUUUUUUU".substring(0, 8)) + Lines.moves(1, "RUUUUUUUU") + """
                addDancer(0, 0, 20) = 0
                addDancer(7, 0, 20) = 1
                pair(0, 1) = 1
                perform(1, 0) = throws.UnsupportedOperationException
                row(0) = 0
                row(1) = 0
                nails(1) = 20
                perform(0, 0) = 16
                row(0) = 7
                row(1) = 7
                column(1) = 6
                """);
        Sentence.holds(Sentence.TERMS, "A figure can be performed if no beat of it is blocked, one after the other.",
                Lines.moves(0, "LLRRRR") + Lines.moves(1, "R") + """
                addDancer(1, 1, 20) = 0
                perform(0, 0) = throws.UnsupportedOperationException
                perform(1, 0) = 1
                perform(0, 0) = 6
                column(0) = 4
                perform(2, 0) = 0
                perform(0, 0) = 6
                perform(0, 0) = throws.UnsupportedOperationException
                column(0) = 6
                """);
    }

    private static void blockedBeat() {
        String now = "Returns the first blocked beat if a dancer performed a figure now.";
        Sentence.holds(24, now, Lines.moves(0, "UUUUUUUUUUUU") + """
                addDancer(0, 0, 20) = 0
                blockedBeat(0, 0) = 7
                nails(0) = 20
                row(0) = 0
                addProp(0, 5) = 1
                blockedBeat(0, 0) = 4
                addDancer(0, 3, 1) = 1
                blockedBeat(0, 0) = 2
                blockedBeat(0, 1) = 1
                walk(0, 0, 2) = 18
                blockedBeat(0, 0) = 0
                lostNails() = 2
                """);
        String counted = "Returns the beat, counted from 0.";
        for (int beat = 0; beat < 12; beat++) {
            Sentence.holds(24, counted, "addDancer(0, 0, 20) = 0\n"
                    + Lines.moves(3, "S".repeat(beat) + "L" + "D".repeat(11 - beat))
                    + "blockedBeat(3, 0) = " + beat + "\n");
        }
        Sentence.holds(24, NO_FIGURE, "addDancer(0, 0, 20) = 0\n" + Lines.moves(0, "D") + Lines.moves(5, "SD")
                + "blockedBeat(0, 0) = 0\nblockedBeat(5, 0) = 1\n" + Lines.noFigures("blockedBeat(N, 0)"));
        String none = "Throws `NoSuchElementException` if there is no such dancer, or no beat would be blocked";
        Sentence.holds(24, none, "blockedBeat(0, 0) = throws.NoSuchElementException\n" + Lines.moves(0, "D")
                + "blockedBeat(0, 0) = throws.NoSuchElementException\n" + Lines.dancers(2, 0, 5)
                + "blockedBeat(0, 0) = 0\n" + Lines.noDancers("blockedBeat(0, N)")
                + "blockedBeat(0, 2) = throws.NoSuchElementException\nremoveDancer(0) = 1\n"
                + "blockedBeat(0, 0) = throws.NoSuchElementException\n");
        Sentence.holds(24, none, "addDancer(0, 0, 12) = 0\n" + Lines.moves(0, "RLRLRLRLRLRL")
                + Lines.moves(1, "S") + """
                blockedBeat(0, 0) = throws.NoSuchElementException
                blockedBeat(1, 0) = throws.NoSuchElementException
                blockedBeat(2, 0) = throws.NoSuchElementException
                perform(0, 0) = 12
                blockedBeat(0, 0) = 0
                blockedBeat(1, 0) = throws.NoSuchElementException
                """);
    }

    private static void withoutNails() {
        for (String move : new String[] {"U", "D", "L", "R"}) {
            Sentence.holds(Sentence.TERMS, BLOCKED, "addDancer(3, 3, 0) = 0\naddDancer(3, 6, 9) = 1\n"
                    + Lines.moves(0, "SSS" + move) + Lines.moves(1, "SSS") + """
                    blockedBeat(0, 0) = 3
                    blockedBeat(1, 0) = throws.NoSuchElementException
                    perform(1, 0) = 0
                    blockedBeat(0, 1) = throws.NoSuchElementException
                    pair(0, 1) = 1
                    blockedBeat(0, 1) = 3
                    blockedBeat(0, 0) = 3
                    perform(1, 1) = 0
                    perform(0, 1) = throws.UnsupportedOperationException
                    """);
        }
        // The nails run out within the figure: as many moves as nails can be made.
        for (int nails = 0; nails < 8; nails++) {
            Sentence.holds(Sentence.TERMS, BLOCKED, "addDancer(0, 0, " + nails + ") = 0\naddDancer(0, 7, 20) = 1\n"
                    + Lines.moves(0, "RLRLRLRL") + "blockedBeat(0, 0) = " + nails + "\npair(0, 1) = 1\n"
                    + "addDancer(7, 7, 20) = 2\nblockedBeat(0, 1) = 0\nunpair(0) = 1\npair(0, 2) = 1\n"
                    + "blockedBeat(0, 0) = " + nails + "\nblockedBeat(0, 2) = 0\n" + Lines.moves(1, "LRLRLRLR")
                    + "blockedBeat(1, 2) = " + nails + "\n");
        }
    }

    private static void edgesOfTheStage() {
        String alone = Lines.moves(0, "U") + Lines.moves(1, "D") + Lines.moves(2, "L") + Lines.moves(3, "R");
        // The dancer 1 is in the middle, so that only the edges near the dancer 0 matter.
        int[][] cells = {{3, 7}, {3, 0}, {0, 3}, {7, 3}, {0, 0}, {7, 7}, {0, 7}, {7, 0}};
        for (int[] cell : cells) {
            boolean[] leaves = {cell[1] == 7, cell[1] == 0, cell[0] == 0, cell[0] == 7};
            StringBuilder lines = new StringBuilder(alone);
            lines.append(Lines.at(cell, "addDancer(X, Y, 20) = 0")).append("addDancer(4, 4, 20) = 1\n");
            for (int figure = 0; figure < 4; figure++) {
                lines.append("blockedBeat(").append(figure).append(", 0) = ").append(dueBeat(leaves[figure]));
            }
            lines.append("pair(0, 1) = 1\n");
            for (int figure = 0; figure < 4; figure++) {
                int mirrored = figure < 2 ? figure : 5 - figure;
                lines.append("blockedBeat(").append(figure).append(", 0) = ").append(dueBeat(leaves[figure]));
                lines.append("blockedBeat(").append(figure).append(", 1) = ").append(dueBeat(leaves[mirrored]));
            }
            Sentence.holds(Sentence.TERMS, BLOCKED, lines.toString());
        }
    }

    private static String dueBeat(boolean blocked) {
        return blocked ? "0\n" : "throws.NoSuchElementException\n";
    }

    private static void props() {
        Sentence.holds(Sentence.TERMS, BLOCKED, Lines.moves(0, "LU") + Lines.moves(1, "RU") + """
                addDancer(3, 1, 20) = 0
                addDancer(6, 5, 20) = 1
                addProp(2, 2) = 1
                addProp(7, 5) = 2
                blockedBeat(0, 0) = 1
                blockedBeat(1, 0) = throws.NoSuchElementException
                pair(0, 1) = 1
                blockedBeat(0, 0) = 0
                blockedBeat(0, 1) = throws.NoSuchElementException
                removeProp(7, 5) = 1
                blockedBeat(0, 0) = 1
                blockedBeat(1, 1) = 1
                removeProp(2, 2) = 0
                perform(0, 0) = 4
                """);
    }

    private static void otherDancers() {
        Sentence.holds(Sentence.TERMS, BLOCKED, Lines.moves(0, "UR") + Lines.moves(1, "UL") + """
                addDancer(1, 1, 20) = 0
                addDancer(5, 5, 20) = 1
                addDancer(2, 2, 0) = 2
                addDancer(4, 6, 0) = 3
                blockedBeat(0, 0) = 1
                blockedBeat(1, 0) = throws.NoSuchElementException
                blockedBeat(1, 1) = 1
                pair(0, 1) = 1
                blockedBeat(0, 0) = 1
                blockedBeat(0, 1) = throws.NoSuchElementException
                removeDancer(2) = 3
                blockedBeat(0, 0) = 1
                blockedBeat(1, 1) = 1
                removeDancer(3) = 2
                perform(0, 0) = 4
                """);
        // The partner of someone else is neither of the two; nor is one who was the partner.
        Sentence.holds(Sentence.TERMS, BLOCKED, Lines.moves(0, "U") + """
                addDancer(1, 1, 20) = 0
                addDancer(1, 2, 20) = 1
                addDancer(6, 6, 20) = 2
                pair(1, 2) = 1
                blockedBeat(0, 0) = 0
                unpair(2) = 1
                pair(0, 1) = 1
                blockedBeat(0, 0) = throws.NoSuchElementException
                unpair(0) = 1
                blockedBeat(0, 0) = 0
                """);
    }

    private static void bothAtOneCell() {
        String facing = Lines.moves(0, "R") + Lines.moves(1, "L") + Lines.moves(2, "U");
        Sentence.holds(Sentence.TERMS, BLOCKED, facing + """
                addDancer(2, 3, 20) = 0
                addDancer(4, 3, 20) = 1
                blockedBeat(0, 0) = throws.NoSuchElementException
                pair(0, 1) = 1
                blockedBeat(0, 0) = 0
                blockedBeat(1, 1) = 0
                blockedBeat(1, 0) = throws.NoSuchElementException
                blockedBeat(0, 1) = throws.NoSuchElementException
                blockedBeat(2, 0) = throws.NoSuchElementException
                """);
        Sentence.holds(Sentence.TERMS, BLOCKED, facing + """
                addDancer(3, 3, 20) = 0
                addDancer(4, 3, 20) = 1
                pair(0, 1) = 1
                blockedBeat(0, 0) = 0
                blockedBeat(1, 1) = 0
                blockedBeat(1, 0) = throws.NoSuchElementException
                blockedBeat(0, 1) = throws.NoSuchElementException
                perform(1, 0) = 2
                column(0) = 2
                column(1) = 5
                perform(0, 0) = 2
                perform(0, 0) = throws.UnsupportedOperationException
                column(0) = 3
                column(1) = 4
                """);
        // With two cells between them, they come together and no nearer.
        Sentence.holds(Sentence.TERMS, BLOCKED, Lines.moves(0, "RRR") + """
                addDancer(1, 3, 20) = 0
                addDancer(6, 3, 20) = 1
                pair(0, 1) = 1
                blockedBeat(0, 0) = 2
                """);
        // In different rows nothing of this matters.
        Sentence.holds(Sentence.TERMS, BLOCKED, Lines.moves(0, "RRR") + """
                addDancer(1, 3, 20) = 0
                addDancer(6, 4, 20) = 1
                pair(0, 1) = 1
                perform(0, 0) = 6
                column(0) = 4
                column(1) = 3
                """);
    }

    private static void oneAfterTheOther() {
        String leaves = "Otherwise one of the two may come to the cell that the other one leaves";
        String column = """
                addDancer(3, 3, 20) = 0
                addDancer(3, 4, 20) = 1
                addDancer(4, 3, 20) = 2
                """;
        Sentence.holds(Sentence.TERMS, leaves, column + Lines.moves(0, "U") + Lines.moves(1, "D") + """
                blockedBeat(0, 0) = 0
                blockedBeat(1, 1) = 0
                pair(0, 1) = 1
                perform(0, 0) = 2
                row(0) = 4
                row(1) = 5
                perform(0, 1) = 2
                row(0) = 5
                row(1) = 6
                perform(1, 0) = 2
                perform(1, 1) = 2
                row(0) = 3
                row(1) = 4
                nails(0) = 16
                nails(1) = 16
                """);
        // The cell that is left behind is free, and the one that the other would not leave is not.
        Sentence.holds(Sentence.TERMS, leaves, Lines.moves(0, "UUUUU") + """
                addDancer(3, 3, 20) = 0
                addDancer(3, 4, 20) = 1
                pair(1, 0) = 1
                blockedBeat(0, 0) = 3
                blockedBeat(0, 1) = 3
                addDancer(3, 6, 0) = 2
                blockedBeat(0, 0) = 1
                walk(2, 3, 6) = 0
                removeDancer(1) = 2
                blockedBeat(0, 0) = 2
                """);
        String beats = "When a dancer performs a figure, its moves are made beat by beat.";
        Sentence.holds(Sentence.TERMS, beats, Lines.moves(0, "RULDRULDRULD") + Lines.moves(1, "RRUULL") + """
                addDancer(0, 0, 20) = 0
                addProp(0, 1) = 1
                blockedBeat(0, 0) = 2
                removeProp(0, 1) = 0
                perform(0, 0) = 12
                column(0) = 0
                row(0) = 0
                perform(1, 0) = 6
                column(0) = 0
                row(0) = 2
                """);
        String stay = "makes the mirrored move at the same time; the others stay";
        Sentence.holds(Sentence.TERMS, stay, Lines.moves(0, "UL") + """
                addDancer(3, 3, 9) = 0
                addDancer(5, 5, 8) = 1
                addDancer(7, 7, 7) = 2
                addDancer(0, 7, 6) = 3
                pair(2, 3) = 1
                perform(0, 0) = 2
                column(1) = 5
                row(1) = 5
                nails(1) = 8
                pair(0, 1) = 2
                perform(0, 1) = 4
                column(1) = 4
                row(1) = 6
                column(0) = 3
                row(0) = 5
                column(2) = 7
                row(2) = 7
                nails(2) = 7
                column(3) = 0
                nails(3) = 6
                """);
    }

    private static void lossOfNails() {
        String loses = "A dancer who moves in a beat that is not blocked loses one nail at once.";
        Sentence.holds(Sentence.TERMS, loses, Lines.moves(0, "SUSUS") + Lines.moves(1, "UUU") + """
                addDancer(3, 3, 2) = 0
                addDancer(5, 3, 20) = 1
                blockedBeat(1, 0) = 2
                perform(0, 0) = 2
                nails(0) = 0
                nails(1) = 20
                lostNails() = 2
                blockedBeat(1, 0) = 0
                renewNails(0) = 0
                pair(0, 1) = 1
                perform(0, 1) = 4
                nails(0) = 18
                nails(1) = 18
                lostNails() = 6
                lostNailsByParts() = 6
                """);
    }

    private static void orderOfExceptions() {
        String order = "the exception that is listed first is thrown";
        // addMove: no such figure, then no such move, then the 12 moves.
        Sentence.holds(Sentence.TERMS, order, Lines.noFigures("addMove(N, 'X')") + Lines.noFigures("addMove(N, #0)")
                + Lines.moves(0, "SSSSSSSSSSSS") + Lines.noFigures("addMove(N, 'S')") + """
                addMove(0, 'X') = throws.IllegalArgumentException
                addMove(0, #0) = throws.IllegalArgumentException
                addMove(0, 'S') = throws.IllegalStateException
                """);
        // perform and blockedBeat: no such figure, then no such dancer.
        for (String call : new String[] {"perform", "blockedBeat"}) {
            Sentence.holds(Sentence.TERMS, order, Lines.noFigures(call + "(N, 0)") + Lines.noFigures(call + "(N, -1)")
                    + "addDancer(0, 0, 0) = 0\n" + Lines.noFigures(call + "(N, 1)") + Lines.noFigures(call + "(N, 0)")
                    + Lines.moves(0, "D") + Lines.noDancers(call + "(0, N)"));
        }
    }
}
