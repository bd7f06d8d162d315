/** The sentences about the stage: promises 1 to 7, and the terms of the stage and its areas. */
final class StageBounds {
    private StageBounds() {
    }

    static void test() {
        newObject();
        addProp();
        removeProp();
        isFree();
        areas();
        areaSize();
        cellsOfTheStage();
        neighbours();
        orderOfExceptions();
    }

    private static void newObject() {
        StringBuilder free = new StringBuilder();
        for (int cell = 0; cell < 64; cell++) {
            free.append("isFree(").append(cell % 8).append(", ").append(cell / 8).append(") = true\n");
        }
        Sentence.holds(1, "Creates an empty stage.", free + """
                dancers() = 0
                exits() = 0
                areas() = 1
                areasByUnions() = 1
                areaSize(0, 0) = 64
                areaSize(7, 7) = 64
                lostNails() = 0
                lostNailsByParts() = 0
                isMirrored() = true
                isMirroredByRows() = true
                isConsistent() = true
                isPresent(0) = false
                dancerByNails(0) = throws.NoSuchElementException
                undo() = throws.IllegalStateException
                restore() = throws.IllegalStateException
                errorPosition() = throws.NoSuchElementException
                failedCommand() = throws.NoSuchElementException
                """ + Lines.each("figureLength(N)", "0", 0, 1, 2, 3, 4, 5));
        Sentence.holds(1, "Creates an empty stage.", "line = \"\"\ntype('x') = 1");
        Sentence.holds(1, "Creates an empty stage.", "addDancer(0, 0, 0) = 0\naddExit(0, 0) = 0\n"
                + "addProp(1, 0) = 1\naddMove(0, 'S') = 1");
    }

    private static void addProp() {
        Sentence.holds(2, "Puts a prop on a cell.", """
                addProp(6, 1) = 1
                isFree(6, 1) = false
                isFree(1, 6) = true
                areaSize(6, 1) = 0
                areaSize(1, 6) = 63
                writeRow(1) = 8
                line = "......#."
                writeRow(6) = 8
                line = "........"
                """);
        Sentence.holds(2, "Returns the number of props afterwards.", Lines.props(20)
                + "removeProp(0, 0) = 19\nremoveProp(1, 0) = 18\naddProp(0, 0) = 19\n");
        String noCell = "Throws `IndexOutOfBoundsException` if there is no such cell";
        for (int[] corner : Lines.CORNERS) {
            Sentence.holds(2, noCell, Lines.at(corner, "addProp(X, Y) = 1"));
        }
        Sentence.holds(2, noCell, Lines.noCells("addProp(X, Y)") + "addProp(0, 0) = 1\n");
        String refused = "if the cell has a prop, a dancer stands on it, or there are 20 props";
        Sentence.holds(2, refused, """
                addProp(3, 3) = 1
                addProp(3, 3) = throws.IllegalStateException
                removeProp(3, 3) = 0
                addProp(3, 3) = 1
                addProp(7, 7) = 2
                addProp(7, 7) = throws.IllegalStateException
                """);
        Sentence.holds(2, refused, """
                addDancer(3, 3, 5) = 0
                addProp(3, 3) = throws.IllegalStateException
                walk(0, 4, 3) = 4
                addProp(4, 3) = throws.IllegalStateException
                addProp(3, 3) = 1
                removeDancer(0) = 0
                addProp(4, 3) = 2
                """);
        StringBuilder onDancers = new StringBuilder(Lines.dancers(8, 7, 0));
        for (int x = 0; x < 8; x++) {
            onDancers.append("addProp(").append(x).append(", 7) = throws.IllegalStateException\n");
        }
        Sentence.holds(2, refused, onDancers + "addProp(7, 6) = 1\n");
        Sentence.holds(2, refused, Lines.props(19) + """
                addProp(7, 7) = 20
                addProp(6, 6) = throws.IllegalStateException
                addProp(7, 7) = throws.IllegalStateException
                removeProp(0, 0) = 19
                addProp(6, 6) = 20
                addProp(0, 0) = throws.IllegalStateException
                """);
        // An exit is neither a prop nor a dancer.
        Sentence.holds(2, refused, "addExit(3, 3) = 0\naddProp(3, 3) = 1\n");
    }

    private static void removeProp() {
        Sentence.holds(3, "Takes the prop from a cell.", """
                addProp(6, 1) = 1
                addProp(1, 6) = 2
                removeProp(6, 1) = 1
                isFree(6, 1) = true
                isFree(1, 6) = false
                areaSize(6, 1) = 63
                writeRow(1) = 8
                line = "........"
                """);
        StringBuilder all = new StringBuilder(Lines.props(20));
        for (int k = 0; k < 20; k++) {
            all.append("removeProp(").append(k % 8).append(", ").append(k / 8).append(") = ")
                    .append(19 - k).append('\n');
        }
        Sentence.holds(3, "Returns the number of props afterwards.", all.toString());
        String noCell = "Throws `IndexOutOfBoundsException` if there is no such cell";
        for (int[] corner : Lines.CORNERS) {
            Sentence.holds(3, noCell, Lines.at(corner, "addProp(X, Y) = 1")
                    + Lines.at(corner, "removeProp(X, Y) = 0"));
        }
        Sentence.holds(3, noCell, Lines.noCells("removeProp(X, Y)"));
        Sentence.holds(3, noCell, Lines.props(20) + Lines.noCells("removeProp(X, Y)"));
        String noProp = "Throws `IllegalStateException` if the cell has no prop";
        for (int[] corner : Lines.CORNERS) {
            Sentence.holds(3, noProp, Lines.at(corner, "removeProp(X, Y) = throws.IllegalStateException"));
        }
        Sentence.holds(3, noProp, """
                addDancer(2, 2, 2) = 0
                addExit(3, 2) = 0
                addProp(5, 2) = 1
                removeProp(2, 2) = throws.IllegalStateException
                removeProp(3, 2) = throws.IllegalStateException
                removeProp(4, 2) = throws.IllegalStateException
                removeProp(2, 5) = throws.IllegalStateException
                removeProp(5, 2) = 0
                removeProp(5, 2) = throws.IllegalStateException
                """);
        Sentence.holds(3, noProp, Lines.props(20) + "removeProp(4, 2) = throws.IllegalStateException\n"
                + "removeProp(3, 2) = 19\nremoveProp(3, 2) = throws.IllegalStateException\n");
    }

    private static void isFree() {
        Sentence.holds(4, "Returns whether a cell has neither a prop nor a dancer.", """
                addProp(2, 5) = 1
                addDancer(5, 2, 3) = 0
                isFree(2, 5) = false
                isFree(5, 2) = false
                isFree(2, 2) = true
                isFree(5, 5) = true
                walk(0, 5, 3) = 2
                isFree(5, 2) = true
                isFree(5, 3) = false
                """);
        Sentence.holds(4, "Returns true if it is free.", """
                addProp(2, 5) = 1
                addDancer(5, 2, 3) = 0
                addExit(4, 4) = 0
                isFree(4, 4) = true
                removeProp(2, 5) = 0
                isFree(2, 5) = true
                removeDancer(0) = 0
                isFree(5, 2) = true
                """);
        Sentence.holds(4, "Returns true if it is free.", Lines.props(20) + "addDancer(4, 2, 0) = 0\n"
                + "isFree(3, 2) = false\nisFree(0, 0) = false\nisFree(4, 2) = false\nisFree(5, 2) = true\n");
        String noCell = "Throws `IndexOutOfBoundsException` if there is no such cell";
        StringBuilder corners = new StringBuilder();
        for (int[] corner : Lines.CORNERS) {
            corners.append(Lines.at(corner, "isFree(X, Y) = true"));
        }
        Sentence.holds(4, noCell, corners + Lines.noCells("isFree(X, Y)"));
    }

    private static void areas() {
        for (int promise = 5; promise <= 6; promise++) {
            String way = promise == 5 ? "by filling one area after the other" : "by uniting the sets";
            String call = promise == 5 ? "areas()" : "areasByUnions()";
            for (String words : new String[] {way, "Returns the number of areas."}) {
                Sentence.holdsForEach(promise, words, fourCorners() + "IT = 5\n", call);
                Sentence.holdsForEach(promise, words, "IT = 1\n" + Lines.props(20) + "IT = 1\n", call);
                Sentence.holdsForEach(promise, words, Lines.snake() + "IT = 1\n", call);
                // The cell 0, 0 comes into the area of another cell; asked again, the answer is the same.
                Sentence.holdsForEach(promise, words, "addProp(0, 1) = 1\naddProp(1, 1) = 2\nIT = 1\nIT = 1\n"
                        + "addProp(1, 0) = 3\nIT = 2\nIT = 2\n", call);
                Sentence.holdsForEach(promise, words, chessBoard() + "IT = 17\n", call);
            }
        }
    }

    /** Two props at each corner of the stage, which make it an area of its own. */
    private static String fourCorners() {
        return """
                addProp(1, 0) = 1
                addProp(0, 1) = 2
                addProp(6, 0) = 3
                addProp(7, 1) = 4
                addProp(0, 6) = 5
                addProp(1, 7) = 6
                addProp(7, 6) = 7
                addProp(6, 7) = 8
                """;
    }

    /** Twenty props on one colour of a chess board, with sixteen single cells between them. */
    private static String chessBoard() {
        StringBuilder lines = new StringBuilder();
        int props = 0;
        for (int y = 0; y < 5; y++) {
            for (int x = 1 - y % 2; x < 8; x += 2) {
                props++;
                lines.append("addProp(").append(x).append(", ").append(y).append(") = ").append(props)
                        .append('\n');
            }
        }
        return lines.toString();
    }

    private static void areaSize() {
        Sentence.holds(7, "of the area to which a cell belongs", fourCorners() + """
                areaSize(0, 0) = 1
                areaSize(7, 0) = 1
                areaSize(0, 7) = 1
                areaSize(7, 7) = 1
                areaSize(1, 1) = 52
                areaSize(6, 6) = 52
                """);
        Sentence.holds(7, "of the area to which a cell belongs", Lines.snake() + "areaSize(0, 0) = 44\n"
                + "areaSize(7, 0) = 44\n");
        Sentence.holds(7, "of the area to which a cell belongs", chessBoard() + "areaSize(0, 0) = 1\n"
                + "areaSize(7, 3) = 1\nareaSize(0, 4) = 28\nareaSize(7, 7) = 28\n");
        Sentence.holds(7, "0 if the cell has a prop", Lines.props(20) + "areaSize(3, 2) = 0\n"
                + "areaSize(4, 2) = 44\nareaSize(0, 0) = 0\nremoveProp(0, 0) = 19\nareaSize(0, 0) = 1\n");
        Sentence.holds(7, "0 if the cell has a prop", "areaSize(0, 0) = 64\naddProp(0, 0) = 1\n"
                + "areaSize(0, 0) = 0\nareaSize(7, 7) = 63\n");
        String noCell = "Throws `IndexOutOfBoundsException` if there is no such cell";
        StringBuilder corners = new StringBuilder();
        for (int[] corner : Lines.CORNERS) {
            corners.append(Lines.at(corner, "areaSize(X, Y) = 64"));
        }
        Sentence.holds(7, noCell, corners + Lines.noCells("areaSize(X, Y)"));
    }

    private static void cellsOfTheStage() {
        StringBuilder all = new StringBuilder();
        for (int cell = 0; cell < 64; cell++) {
            String where = "(" + cell % 8 + ", " + cell / 8 + ")";
            all.append("addProp").append(where).append(" = 1\nremoveProp").append(where).append(" = 0\n");
        }
        String stage = "The stage has 8 columns x and 8 rows y, each numbered from 0 to 7.";
        Sentence.holds(Sentence.TERMS, stage, all.toString());
        Sentence.holds(Sentence.TERMS, stage, "addDancer(7, 0, 0) = 0\ncolumn(0) = 7\nrow(0) = 0\n"
                + "writeRow(0) = 8\nline = \".......0\"\nwriteRow(7) = 8\nline = \"........\"\n");
        String twenty = "Up to 20 cells have a prop.";
        Sentence.holds(Sentence.TERMS, twenty, Lines.props(20)
                + "addProp(7, 7) = throws.IllegalStateException\nareaSize(7, 7) = 44\n");
        Sentence.holds(Sentence.TERMS, twenty, Lines.props(19) + """
                type "prop 77;prop 67"
                run() = throws.UnsupportedOperationException
                failedCommand() = 1
                type "prop 77"
                run() = 1
                addProp(6, 7) = throws.IllegalStateException
                """);
        String oneDancer = "At most one dancer stands on a cell, and none on a cell with a prop.";
        Sentence.holds(Sentence.TERMS, oneDancer, """
                addProp(2, 0) = 1
                addDancer(0, 0, 9) = 0
                addDancer(1, 0, 9) = 1
                addMove(0, 'R') = 1
                addDancer(0, 0, 9) = throws.IllegalStateException
                addDancer(2, 0, 9) = throws.IllegalStateException
                addProp(0, 0) = throws.IllegalStateException
                walk(0, 1, 0) = throws.UnsupportedOperationException
                walk(0, 2, 0) = throws.UnsupportedOperationException
                perform(0, 0) = throws.UnsupportedOperationException
                perform(0, 1) = throws.UnsupportedOperationException
                writeRow(0) = 8
                line = "01#....."
                """);
    }

    private static void neighbours() {
        String neighbours = "Two cells are neighbours if they are in the same row and adjacent columns";
        // Neither the end of a row and the begin of the next, nor the first and the last row, are adjacent.
        String[] areas = {"areas()", "areasByUnions()"};
        Sentence.holdsForEach(Sentence.TERMS, neighbours, column(0, 0) + column(7, 8) + "IT = 1\n", areas);
        Sentence.holdsForEach(Sentence.TERMS, neighbours, column(1, 0) + "IT = 2\nareaSize(0, 3) = 8\n"
                + "areaSize(2, 3) = 48\n", areas);
        Sentence.holdsForEach(Sentence.TERMS, neighbours, row(1) + "IT = 2\nareaSize(3, 0) = 8\n"
                + "areaSize(3, 2) = 48\n", areas);
        Sentence.holdsForEach(Sentence.TERMS, neighbours, fourCorners() + "IT = 5\n", areas);
        // Nor are cells that have only a corner in common.
        Sentence.holdsForEach(Sentence.TERMS, neighbours, "addProp(0, 1) = 1\naddProp(1, 0) = 2\n"
                + "IT = 2\nareaSize(1, 1) = 61\n", areas);
        Sentence.holdsForEach(Sentence.TERMS, neighbours, """
                addDancer(7, 0, 0) = 0
                addDancer(0, 7, 0) = 1
                addDancer(4, 4, 0) = 2
                IT(0, 0, 1) = 8
                IT(0, 6, 1) = 2
                IT(0, 7, 7) = 7
                IT(1, 0, 0) = 7
                IT(2, 4, 5) = 1
                IT(2, 4, 3) = 1
                IT(2, 5, 4) = 1
                IT(2, 3, 4) = 1
                IT(2, 5, 5) = 2
                IT(2, 3, 3) = 2
                IT(2, 5, 3) = 2
                IT(2, 3, 5) = 2
                """, "distance", "distanceByRounds");
        String way = "A way leads from neighbour to neighbour over cells without props";
        Sentence.holdsForEach(Sentence.TERMS, way, "addDancer(0, 0, 0) = 0\n" + Lines.snake()
                + "IT(0, 0, 7) = 7\nIT(0, 1, 7) = 8\nIT(0, 6, 0) = 32\nIT(0, 7, 0) = 33\n"
                + "IT(0, 1, 0) = throws.NoSuchElementException\nremoveProp(1, 0) = 19\n"
                + "IT(0, 1, 0) = 1\nIT(0, 7, 0) = 19\n", "distance", "distanceByRounds");
        String same = "Two cells without props belong to the same area if there is a way";
        Sentence.holdsForEach(Sentence.TERMS, same, column(3, 0) + """
                IT = 2
                areaSize(2, 0) = 24
                areaSize(4, 0) = 32
                removeProp(3, 7) = 7
                IT = 1
                areaSize(2, 0) = 57
                """, areas);
        Sentence.holdsForEach(Sentence.TERMS, "way from one to the other; dancers do not matter", Lines.dancers(8, 3, 0)
                + "IT = 1\nareaSize(0, 3) = 64\nareaSize(0, 0) = 64\n", areas);
    }

    /** Props on a whole column, after some other props. */
    private static String column(int x, int earlier) {
        StringBuilder lines = new StringBuilder();
        for (int y = 0; y < 8; y++) {
            lines.append("addProp(").append(x).append(", ").append(y).append(") = ")
                    .append(earlier + y + 1).append('\n');
        }
        return lines.toString();
    }

    private static String row(int y) {
        StringBuilder lines = new StringBuilder();
        for (int x = 0; x < 8; x++) {
            lines.append("addProp(").append(x).append(", ").append(y).append(") = ").append(x + 1)
                    .append('\n');
        }
        return lines.toString();
    }

    private static void orderOfExceptions() {
        String order = "the exception that is listed first is thrown";
        Sentence.holds(Sentence.TERMS, order, Lines.props(20) + Lines.noCells("addProp(X, Y)"));
        Sentence.holds(Sentence.TERMS, order, Lines.noCells("removeProp(X, Y)"));
    }
}
