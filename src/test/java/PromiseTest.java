/** At least one run for each promise of the document: ordinary inputs, named edges and wrong inputs. */
final class PromiseTest {
    private PromiseTest() {
    }

    public static void main(String[] args) {
        newObject();
        stage();
        dancers();
        partners();
        nails();
        figures();
        performing();
        walking();
        exits();
        exitPlans();
        leaving();
        formations();
        statistics();
        output();
        programs();
        errorPositions();
        failures();
        undoing();
        snapshots();
        Check.end("PromiseTest");
    }

    private static void newObject() {
        Script.run(1, """
                dancers() = 0
                exits() = 0
                areas() = 1
                areaSize(0, 0) = 64
                isFree(0, 0) = true
                isFree(7, 7) = true
                figureLength(0) = 0
                figureLength(5) = 0
                lostNails() = 0
                lostNailsByParts() = 0
                isPresent(0) = false
                isConsistent() = true
                charAt(0) = throws.IndexOutOfBoundsException
                errorPosition() = throws.NoSuchElementException
                failedCommand() = throws.NoSuchElementException
                undo() = throws.IllegalStateException
                restore() = throws.IllegalStateException
                addProp(0, 0) = 1
                addDancer(1, 0, 20) = 0
                addExit(1, 0) = 0
                """);
    }

    private static void stage() {
        Script.run(2, """
                addProp(0, 0) = 1
                addProp(7, 7) = 2
                addProp(0, 0) = throws.IllegalStateException
                addProp(-1, 0) = throws.IndexOutOfBoundsException
                addProp(0, -1) = throws.IndexOutOfBoundsException
                addProp(8, 0) = throws.IndexOutOfBoundsException
                addProp(0, 8) = throws.IndexOutOfBoundsException
                addDancer(3, 4, 5) = 0
                addProp(3, 4) = throws.IllegalStateException
                addProp(4, 3) = 3
                isFree(4, 3) = false
                addExit(5, 5) = 0
                addProp(5, 5) = 4
                """);
        Script.run(2, twentyProps() + """
                addProp(7, 7) = throws.IllegalStateException
                addProp(8, 7) = throws.IndexOutOfBoundsException
                removeProp(0, 0) = 19
                addProp(7, 7) = 20
                """);
        Script.run(3, """
                addProp(2, 5) = 1
                addProp(5, 2) = 2
                removeProp(2, 5) = 1
                isFree(2, 5) = true
                isFree(5, 2) = false
                removeProp(2, 5) = throws.IllegalStateException
                removeProp(0, 0) = throws.IllegalStateException
                removeProp(-1, 5) = throws.IndexOutOfBoundsException
                removeProp(2, 8) = throws.IndexOutOfBoundsException
                removeProp(5, 2) = 0
                """);
        Script.run(4, """
                addProp(2, 5) = 1
                addDancer(6, 1, 0) = 0
                addExit(3, 3) = 0
                isFree(2, 5) = false
                isFree(6, 1) = false
                isFree(1, 6) = true
                isFree(3, 3) = true
                isFree(-1, 0) = throws.IndexOutOfBoundsException
                isFree(0, -1) = throws.IndexOutOfBoundsException
                isFree(8, 0) = throws.IndexOutOfBoundsException
                isFree(0, 8) = throws.IndexOutOfBoundsException
                removeDancer(0) = 0
                isFree(6, 1) = true
                """);
        String corners = """
                addProp(1, 0) = 1
                addProp(0, 1) = 2
                addProp(6, 7) = 3
                addProp(7, 6) = 4
                """;
        Script.run(5, corners + """
                areas() = 3
                addDancer(3, 0, 5) = 0
                addDancer(3, 1, 5) = 1
                areas() = 3
                removeProp(0, 1) = 3
                areas() = 2
                """);
        Script.run(5, wall() + "areas() = 2\nremoveProp(4, 6) = 7\nareas() = 1");
        Script.run(6, corners + """
                areasByUnions() = 3
                addDancer(3, 0, 5) = 0
                areasByUnions() = 3
                removeProp(0, 1) = 3
                areasByUnions() = 2
                """);
        Script.run(6, wall() + "areasByUnions() = 2\nremoveProp(4, 6) = 7\nareasByUnions() = 1");
        Script.run(7, corners + """
                areaSize(0, 0) = 1
                areaSize(7, 7) = 1
                areaSize(0, 7) = 58
                areaSize(1, 0) = 0
                addDancer(0, 0, 5) = 0
                areaSize(0, 0) = 1
                areaSize(8, 0) = throws.IndexOutOfBoundsException
                areaSize(0, -1) = throws.IndexOutOfBoundsException
                """);
        Script.run(7, wall() + "areaSize(3, 3) = 32\nareaSize(5, 3) = 24\nareaSize(4, 3) = 0");
    }

    /** Props on the whole column 4. */
    private static String wall() {
        StringBuilder lines = new StringBuilder();
        for (int y = 0; y < 8; y++) {
            lines.append("addProp(4, ").append(y).append(") = ").append(y + 1).append('\n');
        }
        return lines.toString();
    }

    private static String twentyProps() {
        StringBuilder lines = new StringBuilder();
        for (int k = 0; k < 20; k++) {
            lines.append("addProp(").append(k % 8).append(", ").append(k / 8).append(") = ")
                    .append(k + 1).append('\n');
        }
        return lines.toString();
    }

    private static String eightDancers() {
        StringBuilder lines = new StringBuilder();
        for (int k = 0; k < 8; k++) {
            lines.append("addDancer(").append(k).append(", 0, ").append(k).append(") = ")
                    .append(k).append('\n');
        }
        return lines.toString();
    }

    private static void dancers() {
        Script.run(8, """
                addProp(2, 2) = 1
                addDancer(0, 0, 0) = 0
                addDancer(7, 7, 20) = 1
                addDancer(7, 7, 20) = throws.IllegalStateException
                addDancer(2, 2, 20) = throws.IllegalStateException
                addDancer(2, 2, 21) = throws.IllegalArgumentException
                addDancer(1, 1, -1) = throws.IllegalArgumentException
                addDancer(1, 1, 21) = throws.IllegalArgumentException
                addDancer(8, 1, 21) = throws.IndexOutOfBoundsException
                addDancer(-1, 1, 2) = throws.IndexOutOfBoundsException
                addDancer(1, -1, 2) = throws.IndexOutOfBoundsException
                addDancer(1, 8, 2) = throws.IndexOutOfBoundsException
                removeDancer(1) = 1
                addDancer(7, 7, 3) = 2
                dancers() = 2
                """);
        Script.run(8, eightDancers() + """
                addDancer(0, 1, 5) = throws.IllegalStateException
                addDancer(0, 1, 21) = throws.IllegalArgumentException
                removeDancer(3) = 7
                addDancer(0, 1, 5) = 8
                nails(8) = 5
                """);
        Script.run(9, eightDancers() + """
                pair(2, 6) = 1
                pair(0, 1) = 2
                removeDancer(2) = 7
                partner(6) = throws.NoSuchElementException
                partner(0) = 1
                isPresent(2) = false
                isFree(2, 0) = true
                isPresent(7) = true
                column(7) = 7
                nails(3) = 3
                partner(1) = 0
                pair(6, 7) = 2
                removeDancer(2) = throws.NoSuchElementException
                removeDancer(-1) = throws.NoSuchElementException
                removeDancer(8) = throws.NoSuchElementException
                removeDancer(7) = 6
                dancers() = 6
                lostNailsByParts() = 0
                isConsistent() = true
                """);
        Script.run(13, """
                dancers() = 0
                addDancer(0, 0, 0) = 0
                dancers() = 1
                addDancer(0, 0, 0) = throws.IllegalStateException
                dancers() = 1
                addDancer(1, 0, 0) = 1
                dancers() = 2
                removeDancer(0) = 1
                dancers() = 1
                """);
        Script.run(14, """
                isPresent(0) = false
                isPresent(-1) = false
                addDancer(0, 0, 0) = 0
                addDancer(1, 0, 0) = 1
                isPresent(0) = true
                isPresent(1) = true
                isPresent(2) = false
                isPresent(-1) = false
                removeDancer(0) = 1
                isPresent(0) = false
                isPresent(1) = true
                """);
        String two = "addDancer(3, 6, 11) = 0\naddDancer(7, 0, 20) = 1\n";
        Script.run(15, two + """
                column(0) = 3
                column(1) = 7
                column(2) = throws.NoSuchElementException
                column(-1) = throws.NoSuchElementException
                """);
        Script.run(16, two + """
                row(0) = 6
                row(1) = 0
                row(2) = throws.NoSuchElementException
                row(-1) = throws.NoSuchElementException
                """);
        Script.run(17, two + """
                nails(0) = 11
                nails(1) = 20
                nails(2) = throws.NoSuchElementException
                nails(-1) = throws.NoSuchElementException
                """);
    }

    private static void partners() {
        Script.run(10, eightDancers() + """
                pair(0, 7) = 1
                pair(5, 2) = 2
                partner(0) = 7
                partner(7) = 0
                partner(2) = 5
                partner(5) = 2
                pair(3, 3) = throws.IllegalArgumentException
                pair(0, 0) = throws.IllegalArgumentException
                pair(0, 3) = throws.IllegalStateException
                pair(3, 7) = throws.IllegalStateException
                pair(0, 7) = throws.IllegalStateException
                pair(8, 3) = throws.NoSuchElementException
                pair(3, 8) = throws.NoSuchElementException
                pair(8, 8) = throws.NoSuchElementException
                pair(-1, -1) = throws.NoSuchElementException
                pair(3, -1) = throws.NoSuchElementException
                pair(1, 3) = 3
                pair(4, 6) = 4
                """);
        Script.run(11, eightDancers() + """
                pair(0, 7) = 1
                pair(1, 2) = 2
                unpair(7) = 0
                unpair(7) = throws.IllegalStateException
                unpair(0) = throws.IllegalStateException
                partner(0) = throws.NoSuchElementException
                unpair(1) = 2
                unpair(3) = throws.IllegalStateException
                unpair(8) = throws.NoSuchElementException
                unpair(-1) = throws.NoSuchElementException
                pair(0, 1) = 1
                """);
        Script.run(18, eightDancers() + """
                pair(0, 7) = 1
                pair(6, 1) = 2
                removeDancer(2) = 7
                partner(0) = 7
                partner(7) = 0
                partner(1) = 6
                partner(6) = 1
                partner(3) = throws.NoSuchElementException
                partner(2) = throws.NoSuchElementException
                partner(-1) = throws.NoSuchElementException
                """);
    }

    private static void nails() {
        Script.run(12, """
                addDancer(0, 0, 7) = 0
                addDancer(1, 0, 20) = 1
                addDancer(2, 0, 0) = 2
                renewNails(0) = 7
                nails(0) = 20
                renewNails(0) = 20
                renewNails(1) = 20
                renewNails(2) = 0
                nails(2) = 20
                lostNails() = 0
                lostNailsByParts() = 0
                renewNails(3) = throws.NoSuchElementException
                renewNails(-1) = throws.NoSuchElementException
                """);
        Script.run(19, """
                dancerByNails(0) = throws.NoSuchElementException
                addDancer(0, 0, 7) = 0
                addDancer(1, 0, 3) = 1
                addDancer(2, 0, 7) = 2
                addDancer(3, 0, 20) = 3
                addDancer(4, 0, 3) = 4
                dancerByNails(0) = 1
                dancerByNails(1) = 4
                dancerByNails(2) = 0
                dancerByNails(3) = 2
                dancerByNails(4) = 3
                dancerByNails(5) = throws.NoSuchElementException
                dancerByNails(-1) = throws.NoSuchElementException
                removeDancer(1) = 4
                dancerByNails(0) = 4
                dancerByNails(4) = throws.NoSuchElementException
                """);
    }

    private static void figures() {
        Script.run(20, """
                addMove(0, 'U') = 1
                addMove(0, 'D') = 2
                addMove(0, 'L') = 3
                addMove(0, 'R') = 4
                addMove(0, 'S') = 5
                addMove(5, 'S') = 1
                addMove(0, 'u') = throws.IllegalArgumentException
                addMove(0, 'X') = throws.IllegalArgumentException
                addMove(0, '\u1234') = throws.IllegalArgumentException
                addMove(6, 'X') = throws.IndexOutOfBoundsException
                addMove(6, 'U') = throws.IndexOutOfBoundsException
                addMove(-1, 'U') = throws.IndexOutOfBoundsException
                addMove(0, 'S') = 6
                addMove(0, 'S') = 7
                addMove(0, 'S') = 8
                addMove(0, 'S') = 9
                addMove(0, 'S') = 10
                addMove(0, 'S') = 11
                addMove(0, 'R') = 12
                addMove(0, 'S') = throws.IllegalStateException
                addMove(0, 'X') = throws.IllegalArgumentException
                addMove(6, 'S') = throws.IndexOutOfBoundsException
                figureLength(0) = 12
                figureLength(1) = 0
                writeFigure(0) = 7
                line = "UDLR7SR"
                """);
        Script.run(21, """
                clearFigure(0) = 0
                addMove(0, 'U') = 1
                addMove(0, 'D') = 2
                addMove(5, 'D') = 1
                clearFigure(0) = 2
                clearFigure(0) = 0
                figureLength(0) = 0
                figureLength(5) = 1
                clearFigure(5) = 1
                clearFigure(6) = throws.IndexOutOfBoundsException
                clearFigure(-1) = throws.IndexOutOfBoundsException
                addMove(0, 'R') = 1
                writeFigure(0) = 1
                line = "R"
                """);
        Script.run(22, """
                addMove(2, 'U') = 1
                addMove(2, 'U') = 2
                figureLength(2) = 2
                figureLength(1) = 0
                figureLength(3) = 0
                figureLength(6) = throws.IndexOutOfBoundsException
                figureLength(-1) = throws.IndexOutOfBoundsException
                """);
    }

    private static void performing() {
        Script.run(23, """
                addDancer(0, 0, 20) = 0
                type "figure 0:UURDS"
                run() = 1
                perform(0, 0) = 4
                column(0) = 1
                row(0) = 1
                nails(0) = 16
                lostNails() = 4
                perform(1, 0) = 0
                perform(6, 0) = throws.IndexOutOfBoundsException
                perform(6, 9) = throws.IndexOutOfBoundsException
                perform(-1, 0) = throws.IndexOutOfBoundsException
                perform(0, 1) = throws.NoSuchElementException
                perform(0, -1) = throws.NoSuchElementException
                nails(0) = 16
                """);
        // Partners mirror: the one goes left and the other right; other dancers stay.
        Script.run(23, """
                addDancer(3, 0, 5) = 0
                addDancer(4, 3, 9) = 1
                addDancer(7, 7, 1) = 2
                pair(1, 0) = 1
                type "figure 0:LUS"
                run() = 1
                perform(0, 0) = 4
                column(0) = 2
                row(0) = 1
                nails(0) = 3
                column(1) = 5
                row(1) = 4
                nails(1) = 7
                column(2) = 7
                nails(2) = 1
                perform(0, 1) = 4
                column(1) = 4
                column(0) = 3
                """);
        // Both would come to the same cell, or would exchange their cells.
        Script.run(23, """
                addDancer(2, 0, 5) = 0
                addDancer(4, 0, 5) = 1
                pair(0, 1) = 1
                addMove(0, 'R') = 1
                perform(0, 0) = throws.UnsupportedOperationException
                blockedBeat(0, 0) = 0
                column(0) = 2
                nails(0) = 5
                walk(0, 3, 0) = 4
                perform(0, 0) = throws.UnsupportedOperationException
                addMove(1, 'L') = 1
                perform(1, 0) = 2
                column(0) = 2
                column(1) = 5
                lostNails() = 3
                """);
        // One comes to the cell that the other one leaves in the same beat.
        Script.run(23, """
                addDancer(2, 1, 5) = 0
                addDancer(2, 2, 5) = 1
                addDancer(2, 4, 5) = 2
                addMove(0, 'U') = 1
                perform(0, 0) = throws.UnsupportedOperationException
                pair(0, 1) = 1
                perform(0, 0) = 2
                row(0) = 2
                row(1) = 3
                perform(0, 0) = throws.UnsupportedOperationException
                perform(0, 1) = throws.UnsupportedOperationException
                removeDancer(2) = 2
                perform(0, 1) = 2
                row(0) = 3
                row(1) = 4
                """);
        // Nothing is changed by a figure that is blocked only at its last beat.
        Script.run(23, """
                addDancer(0, 0, 3) = 0
                type "figure 0:UUUU;figure 1:UUUSS;figure 2:SS"
                run() = 3
                perform(0, 0) = throws.UnsupportedOperationException
                row(0) = 0
                nails(0) = 3
                lostNails() = 0
                perform(1, 0) = 3
                nails(0) = 0
                row(0) = 3
                perform(2, 0) = 0
                perform(0, 0) = throws.UnsupportedOperationException
                lostNailsByParts() = 3
                """);
        Script.run(24, """
                addDancer(0, 0, 20) = 0
                addDancer(7, 0, 2) = 1
                addProp(0, 3) = 1
                type "figure 0:UUU;figure 1:L;figure 2:SSD;figure 3:SUD"
                run() = 4
                blockedBeat(0, 0) = 2
                blockedBeat(1, 0) = 0
                blockedBeat(2, 0) = 2
                blockedBeat(3, 0) = throws.NoSuchElementException
                blockedBeat(4, 0) = throws.NoSuchElementException
                blockedBeat(0, 1) = 2
                blockedBeat(3, 1) = throws.NoSuchElementException
                blockedBeat(6, 0) = throws.IndexOutOfBoundsException
                blockedBeat(6, 5) = throws.IndexOutOfBoundsException
                blockedBeat(-1, 0) = throws.IndexOutOfBoundsException
                blockedBeat(0, 2) = throws.NoSuchElementException
                blockedBeat(0, -1) = throws.NoSuchElementException
                pair(0, 1) = 1
                removeProp(0, 3) = 0
                blockedBeat(0, 0) = 2
                blockedBeat(0, 1) = 2
                blockedBeat(1, 1) = throws.NoSuchElementException
                row(0) = 0
                nails(0) = 20
                undo() = 5
                blockedBeat(0, 0) = 2
                """);
        Script.run(24, edgesOfTheStage());
    }

    private static String edgesOfTheStage() {
        return """
                addDancer(7, 7, 20) = 0
                addDancer(0, 3, 20) = 1
                type "figure 0:U;figure 1:D;figure 2:L;figure 3:R"
                run() = 4
                blockedBeat(0, 0) = 0
                blockedBeat(1, 0) = throws.NoSuchElementException
                blockedBeat(2, 0) = throws.NoSuchElementException
                blockedBeat(3, 0) = 0
                blockedBeat(2, 1) = 0
                blockedBeat(3, 1) = throws.NoSuchElementException
                pair(0, 1) = 1
                blockedBeat(0, 1) = 0
                blockedBeat(1, 1) = throws.NoSuchElementException
                blockedBeat(2, 0) = throws.NoSuchElementException
                blockedBeat(3, 0) = 0
                addProp(1, 3) = 1
                blockedBeat(2, 0) = 0
                """;
    }

    private static void walking() {
        String maze = """
                addProp(1, 0) = 1
                addProp(1, 1) = 2
                addProp(1, 2) = 3
                addProp(7, 6) = 4
                addProp(6, 7) = 5
                addDancer(0, 0, 20) = 0
                addDancer(0, 3, 20) = 1
                addDancer(5, 5, 20) = 2
                """;
        Script.run(25, maze + """
                distance(0, 0, 0) = 0
                distance(0, 0, 2) = 2
                distance(0, 2, 0) = throws.NoSuchElementException
                distance(0, 0, 3) = throws.NoSuchElementException
                distance(0, 1, 0) = throws.NoSuchElementException
                distance(2, 7, 7) = throws.NoSuchElementException
                distance(2, 0, 0) = throws.NoSuchElementException
                distance(2, 2, 0) = 8
                removeDancer(1) = 2
                distance(0, 2, 0) = 8
                distance(0, 6, 5) = 11
                distance(2, 6, 5) = 1
                distance(0, 5, 5) = throws.NoSuchElementException
                distance(1, 0, 0) = throws.NoSuchElementException
                distance(1, 8, 0) = throws.NoSuchElementException
                distance(0, 8, 0) = throws.IndexOutOfBoundsException
                distance(0, 0, -1) = throws.IndexOutOfBoundsException
                """);
        Script.run(26, maze + """
                distanceByRounds(0, 0, 0) = 0
                distanceByRounds(0, 0, 2) = 2
                distanceByRounds(0, 2, 0) = throws.NoSuchElementException
                distanceByRounds(0, 0, 3) = throws.NoSuchElementException
                distanceByRounds(0, 1, 0) = throws.NoSuchElementException
                distanceByRounds(2, 7, 7) = throws.NoSuchElementException
                distanceByRounds(2, 0, 0) = throws.NoSuchElementException
                distanceByRounds(2, 2, 0) = 8
                removeDancer(1) = 2
                distanceByRounds(0, 2, 0) = 8
                distanceByRounds(0, 6, 5) = 11
                distanceByRounds(2, 6, 5) = 1
                distanceByRounds(0, 5, 5) = throws.NoSuchElementException
                distanceByRounds(1, 0, 0) = throws.NoSuchElementException
                distanceByRounds(1, 8, 0) = throws.NoSuchElementException
                distanceByRounds(0, 8, 0) = throws.IndexOutOfBoundsException
                distanceByRounds(0, 0, -1) = throws.IndexOutOfBoundsException
                """);
        Script.run(27, """
                addDancer(0, 0, 9) = 0
                addDancer(4, 4, 1) = 1
                addDancer(2, 2, 0) = 2
                pair(0, 1) = 1
                walk(0, 0, 0) = 9
                walk(0, 3, 2) = 4
                column(0) = 3
                row(0) = 2
                column(1) = 4
                row(1) = 4
                nails(0) = 4
                nails(1) = 1
                lostNails() = 5
                lostNailsByParts() = 5
                walk(0, 3, 7) = throws.IllegalStateException
                walk(0, 3, 6) = 0
                walk(0, 3, 6) = 0
                walk(0, 3, 5) = throws.IllegalStateException
                walk(1, 3, 6) = throws.UnsupportedOperationException
                walk(1, 2, 2) = throws.UnsupportedOperationException
                walk(0, 8, 0) = throws.IndexOutOfBoundsException
                walk(0, 0, -1) = throws.IndexOutOfBoundsException
                walk(3, 8, 0) = throws.NoSuchElementException
                walk(-1, 0, 0) = throws.NoSuchElementException
                column(0) = 3
                row(0) = 6
                addProp(5, 5) = 1
                walk(1, 5, 5) = throws.UnsupportedOperationException
                """);
    }

    private static void exits() {
        Script.run(28, """
                addDancer(1, 1, 0) = 0
                addProp(2, 2) = 1
                addExit(0, 0) = 0
                addExit(1, 1) = 1
                addExit(2, 2) = 2
                addExit(2, 2) = throws.IllegalStateException
                addExit(8, 0) = throws.IndexOutOfBoundsException
                addExit(0, 8) = throws.IndexOutOfBoundsException
                addExit(-1, 0) = throws.IndexOutOfBoundsException
                addExit(7, 7) = 3
                addExit(0, 7) = 4
                addExit(7, 0) = 5
                addExit(3, 3) = throws.IllegalStateException
                addExit(3, -1) = throws.IndexOutOfBoundsException
                removeExit(0) = 5
                addExit(3, 3) = 5
                """);
        Script.run(29, """
                removeExit(0) = throws.IndexOutOfBoundsException
                addDancer(0, 0, 5) = 0
                addExit(0, 1) = 0
                addExit(0, 2) = 1
                addExit(0, 3) = 2
                removeExit(3) = throws.IndexOutOfBoundsException
                removeExit(-1) = throws.IndexOutOfBoundsException
                removeExit(1) = 2
                exitDistance(0, 0) = 1
                exitDistance(0, 1) = 3
                removeExit(2) = throws.IndexOutOfBoundsException
                removeExit(0) = 1
                exitDistance(0, 0) = 3
                removeExit(0) = 0
                """);
        Script.run(30, """
                exits() = 0
                addExit(0, 1) = 0
                exits() = 1
                addExit(0, 1) = throws.IllegalStateException
                exits() = 1
                addExit(1, 1) = 1
                exits() = 2
                removeExit(1) = 1
                exits() = 1
                """);
        Script.run(31, """
                addDancer(0, 0, 0) = 0
                addDancer(1, 0, 0) = 1
                addDancer(7, 7, 0) = 2
                addProp(0, 1) = 1
                addProp(7, 6) = 2
                addProp(6, 7) = 3
                addExit(0, 0) = 0
                addExit(0, 1) = 1
                addExit(0, 2) = 2
                exitDistance(0, 0) = 0
                exitDistance(1, 0) = 1
                exitDistance(0, 1) = throws.NoSuchElementException
                exitDistance(0, 2) = 4
                exitDistance(2, 0) = throws.NoSuchElementException
                exitDistance(3, 0) = throws.NoSuchElementException
                exitDistance(3, 9) = throws.NoSuchElementException
                exitDistance(0, 3) = throws.IndexOutOfBoundsException
                exitDistance(0, -1) = throws.IndexOutOfBoundsException
                """);
    }

    private static void exitPlans() {
        // The nearest exit of both dancers is the exit 0, but only together they know who takes it.
        String plan = """
                addDancer(1, 0, 0) = 0
                addDancer(2, 0, 0) = 1
                addExit(0, 0) = 0
                addExit(6, 0) = 1
                """;
        // The last dancer takes the exit 1, which is the nearest one of all three.
        String chain = """
                addDancer(2, 0, 0) = 0
                addDancer(4, 0, 0) = 1
                addDancer(3, 1, 0) = 2
                addExit(0, 0) = 0
                addExit(3, 0) = 1
                addExit(7, 0) = 2
                """;
        Script.run(32, chain + "exitCost() = 6\n");
        Script.run(33, chain + "exitCostByPotentials() = 6\naddProp(7, 0) = 1\n"
                + "exitCostByPotentials() = throws.NoSuchElementException\naddExit(6, 0) = 3\n"
                + "exitCostByPotentials() = 5\n");
        Script.run(34, chain + "exitOf(0) = 0\nexitOf(1) = 2\nexitOf(2) = 1\n");
        Script.run(32, """
                exitCost() = 0
                addDancer(5, 5, 5) = 0
                exitCost() = throws.NoSuchElementException
                addExit(5, 5) = 0
                exitCost() = 0
                addProp(0, 0) = 1
                addExit(0, 0) = 1
                addDancer(5, 6, 5) = 1
                exitCost() = throws.NoSuchElementException
                removeExit(1) = 1
                exitCost() = throws.NoSuchElementException
                addExit(7, 7) = 1
                exitCost() = 3
                """);
        Script.run(32, plan + "exitCost() = 5\n");
        Script.run(33, """
                exitCostByPotentials() = 0
                addDancer(5, 5, 5) = 0
                exitCostByPotentials() = throws.NoSuchElementException
                addExit(5, 5) = 0
                exitCostByPotentials() = 0
                addProp(0, 0) = 1
                addExit(0, 0) = 1
                addDancer(5, 6, 5) = 1
                exitCostByPotentials() = throws.NoSuchElementException
                removeExit(1) = 1
                exitCostByPotentials() = throws.NoSuchElementException
                addExit(7, 7) = 1
                exitCostByPotentials() = 3
                """);
        Script.run(33, plan + "exitCostByPotentials() = 5\n");
        Script.run(34, plan + """
                exitOf(0) = 0
                exitOf(1) = 1
                exitOf(2) = throws.NoSuchElementException
                exitOf(-1) = throws.NoSuchElementException
                addDancer(3, 3, 3) = 2
                exitOf(0) = throws.NoSuchElementException
                """);
        // Of equal plans, the dancer with the smallest number gets the smallest index.
        Script.run(34, """
                addDancer(3, 0, 0) = 0
                addDancer(3, 2, 0) = 1
                addDancer(3, 4, 0) = 2
                addExit(2, 0) = 0
                addExit(4, 0) = 1
                addExit(2, 2) = 2
                addExit(4, 2) = 3
                addExit(4, 4) = 4
                addExit(2, 4) = 5
                exitOf(0) = 0
                exitOf(1) = 2
                exitOf(2) = 4
                exitCost() = 3
                removeExit(0) = 5
                exitOf(0) = 0
                removeDancer(0) = 2
                exitOf(1) = 1
                """);
        Script.run(34, """
                addDancer(3, 0, 0) = 0
                addDancer(4, 0, 0) = 1
                addExit(5, 0) = 0
                addExit(6, 0) = 1
                exitOf(0) = 0
                exitOf(1) = 1
                exitCost() = 4
                """);
    }

    private static void leaving() {
        Script.run(35, """
                leaveAll() = throws.IllegalStateException
                addDancer(1, 0, 7) = 0
                addDancer(2, 0, 8) = 1
                pair(0, 1) = 1
                leaveAll() = throws.UnsupportedOperationException
                addExit(0, 0) = 0
                addExit(6, 0) = 1
                leaveAll() = 5
                dancers() = 0
                isPresent(0) = false
                isFree(1, 0) = true
                exits() = 2
                lostNails() = 0
                lostNailsByParts() = 0
                leaveAll() = throws.IllegalStateException
                exitCost() = 0
                addDancer(1, 0, 3) = 2
                partner(2) = throws.NoSuchElementException
                addProp(0, 0) = 1
                addProp(6, 0) = 2
                leaveAll() = throws.UnsupportedOperationException
                isPresent(2) = true
                isConsistent() = true
                """);
    }

    private static void formations() {
        for (String call : new String[] {"isMirrored()", "isMirroredByRows()"}) {
            Script.run(call.equals("isMirrored()") ? 36 : 37, """
                    IT = true
                    addDancer(0, 0, 0) = 0
                    IT = false
                    addDancer(7, 1, 0) = 1
                    IT = false
                    addDancer(7, 0, 0) = 2
                    IT = false
                    addDancer(0, 1, 0) = 3
                    IT = true
                    addDancer(3, 7, 0) = 4
                    IT = false
                    addDancer(4, 7, 0) = 5
                    IT = true
                    addDancer(5, 7, 0) = 6
                    IT = false
                    addProp(2, 7) = 1
                    IT = false
                    removeProp(2, 7) = 0
                    addDancer(2, 7, 0) = 7
                    IT = true
                    """.replace("IT", call));
        }
    }

    private static void statistics() {
        String loss = """
                addDancer(0, 0, 20) = 0
                addDancer(7, 0, 10) = 1
                pair(0, 1) = 1
                type "figure 0:UUSUR;figure 1:DDDDDDDD"
                run() = 2
                perform(0, 0) = 8
                perform(1, 0) = throws.UnsupportedOperationException
                walk(0, 1, 0) = 13
                renewNails(0) = 13
                removeDancer(1) = 1
                walk(0, 2, 0) = 19
                """;
        Script.run(38, loss + "lostNails() = 12\nundo()\nlostNails() = 11\n");
        Script.run(39, loss + "lostNailsByParts() = 12\nundo()\nlostNailsByParts() = 11\n");
        Script.run(40, """
                meanNails() = throws.ArithmeticException
                addDancer(0, 0, 0) = 0
                meanNails() = 0.0
                addDancer(1, 0, 7) = 1
                meanNails() = 3.5
                addDancer(2, 0, 20) = 2
                meanNails() = 9.0
                addDancer(3, 0, 20) = 3
                addDancer(4, 0, 20) = 4
                addDancer(5, 0, 20) = 5
                addDancer(6, 0, 20) = 6
                meanNails() = 15.285714285714286
                """);
        for (int nails = 0; nails <= 20; nails++) {
            Script.run(41, "addDancer(0, 0, " + nails + ") = 0\nmeanNailsBits() = "
                    + Double.doubleToLongBits(nails) + "\naddDancer(1, 0, 0) = 1\naddDancer(2, 0, 0) = 2\n"
                    + "meanNailsBits() = " + Double.doubleToLongBits((double) nails / 3.0)
                    + "\nrenewNails(1) = 0\nmeanNailsBits() = "
                    + Double.doubleToLongBits((double) (nails + 20) / 3.0));
        }
        Script.run(41, eightDancers().replace(", 0, ", ", 7, ") + "meanNailsBits() = "
                + Double.doubleToLongBits(3.5));
        Script.run(41, "meanNailsBits() = throws.ArithmeticException");
        Script.run(42, """
                pairedShare() = throws.ArithmeticException
                addDancer(0, 0, 0) = 0
                pairedShare() = 0.0
                addDancer(1, 0, 7) = 1
                pair(0, 1) = 1
                pairedShare() = 1.0
                addDancer(2, 0, 20) = 2
                pairedShare() = 0.6666667
                """);
        for (int dancers = 2; dancers <= 8; dancers++) {
            for (int pairs = 0; 2 * pairs <= dancers; pairs++) {
                Script.run(43, pairedDancers(dancers, pairs) + "pairedShareBits() = "
                        + Float.floatToIntBits((float) (2 * pairs) / (float) dancers));
            }
        }
        Script.run(43, "pairedShareBits() = throws.ArithmeticException");
        Script.run(44, "isConsistent() = true\n" + loss + "addProp(5, 5) = 1\naddExit(5, 5) = 0\n"
                + "isConsistent() = true\n");
    }

    private static String pairedDancers(int dancers, int pairs) {
        StringBuilder lines = new StringBuilder();
        for (int k = 0; k < dancers; k++) {
            lines.append("addDancer(").append(k).append(", 3, 1) = ").append(k).append('\n');
        }
        for (int k = 0; k < pairs; k++) {
            lines.append("pair(").append(2 * k).append(", ").append(2 * k + 1).append(") = ")
                    .append(k + 1).append('\n');
        }
        return lines.toString();
    }

    private static void output() {
        Script.run(45, eightDancers() + """
                removeDancer(0) = 7
                removeDancer(1) = 6
                removeDancer(2) = 5
                removeDancer(3) = 4
                addDancer(7, 3, 1) = 8
                addDancer(0, 3, 1) = 9
                addDancer(3, 3, 1) = 10
                addDancer(4, 3, 1) = 11
                addProp(1, 3) = 1
                addProp(3, 2) = 2
                addExit(2, 3) = 0
                addExit(1, 3) = 1
                writeRow(3) = 8
                line = "9#.01..8"
                writeRow(0) = 8
                line = "....4567"
                writeRow(7) = 8
                line = "........"
                writeRow(8) = throws.IndexOutOfBoundsException
                writeRow(-1) = throws.IndexOutOfBoundsException
                line = "........"
                """);
        Script.run(46, """
                type "figure 0:UURSLLL;figure 1:RRRRRRRRRRRR"
                run() = 2
                writeFigure(0) = 6
                line = "2URS3L"
                writeFigure(3) = 0
                line = ""
                writeFigure(6) = throws.IndexOutOfBoundsException
                writeFigure(-1) = throws.IndexOutOfBoundsException
                """);
        Script.run(46, """
                type "figure 1:RRRRRRRRRRRR;figure 2:UDUDUDUDUDUD"
                run() = 2
                writeFigure(1) = 3
                line = "12R"
                writeFigure(2) = 12
                line = "UDUDUDUDUDUD"
                type "figure 1:LLLLLLLLLL;figure 2:LLLLLLLLLRR"
                run() = 2
                writeFigure(1) = 3
                line = "10L"
                writeFigure(2) = 4
                line = "9L2R"
                writeFigure(-1) = throws.IndexOutOfBoundsException
                line = "9L2R"
                """);
        Script.run(47, """
                charAt(0) = throws.IndexOutOfBoundsException
                addMove(0, 'U') = 1
                charAt(0) = throws.IndexOutOfBoundsException
                writeRow(0) = 8
                charAt(7) = .
                charAt(8) = throws.IndexOutOfBoundsException
                charAt(-1) = throws.IndexOutOfBoundsException
                writeFigure(0) = 1
                charAt(0) = U
                charAt(1) = throws.IndexOutOfBoundsException
                undo() = 0
                charAt(0) = U
                """);
    }

    private static void programs() {
        Script.run(48, """
                type('x') = 1
                type('\u0000') = 2
                type('\uffff') = 3
                type('\u1234') = 4
                run() = throws.IllegalArgumentException
                errorPosition() = 0
                type('l') = 1
                """);
        Script.run(48, """
                type "leaveleaveleaveleaveleaveleaveleaveleaveleaveleaveleaveleav"
                type('e') = 60
                type('e') = throws.IllegalStateException
                type(';') = throws.IllegalStateException
                run() = throws.IllegalArgumentException
                errorPosition() = 5
                type('e') = 1
                """);
        Script.run(49, """
                type "prop 17;dancer 34*20;dancer 65*7;exit 70;exit 07;exit 33"
                run() = 6
                isFree(1, 7) = false
                isFree(7, 1) = true
                column(0) = 3
                row(0) = 4
                nails(0) = 20
                column(1) = 6
                row(1) = 5
                nails(1) = 7
                exits() = 3
                exitDistance(0, 2) = 1
                type "pair 01&0;figure 5:LUDRS;perform 5 0;walk 0>00;nails 0"
                run() = 5
                partner(0) = 1
                writeFigure(5) = 5
                line = "LUDRS"
                column(0) = 0
                row(0) = 0
                nails(0) = 20
                nails(1) = 3
                undo() = 1
                """);
        Script.run(49, """
                addDancer(0, 0, 5) = 0
                addExit(0, 3) = 0
                type "leave"
                run() = 1
                dancers() = 0
                type('l') = 1
                type "eave"
                run() = throws.UnsupportedOperationException
                failedCommand() = 0
                type('x') = 1
                """);
        Script.run(49, """
                type "figure 0:U;figure 0:;figure 0:DD;figure 1:;figure 0:DU"
                run() = 5
                figureLength(0) = 2
                writeFigure(0) = 2
                line = "DU"
                type "figure 0:"
                run() = 1
                figureLength(0) = 0
                """);
        // Ten commands fill the buffer; 01 is the number 1; numbers have one or two digits.
        Script.run(49, """
                type "nails 0;nails 01;nails 1;nails 0;nails 0;nails 0;nails 0"
                addDancer(0, 0, 1) = 0
                addDancer(1, 0, 1) = 1
                run() = 7
                nails(1) = 20
                undo() = 2
                nails(1) = 1
                """);
        Script.run(49, """
                type "nails 10"
                dancers() = 0
                run() = throws.UnsupportedOperationException
                """);
    }

    private static void errorPositions() {
        Script.run(50, """
                errorPosition() = throws.NoSuchElementException
                type "leave"
                run() = throws.UnsupportedOperationException
                errorPosition() = throws.NoSuchElementException
                run() = throws.IllegalArgumentException
                errorPosition() = 0
                type "prop 77"
                run() = 1
                errorPosition() = 0
                type "prop x"
                run() = throws.IllegalArgumentException
                errorPosition() = 5
                undo() = 0
                errorPosition() = 5
                """);
        position("", 0);
        position(" ", 0);
        position("\u1234", 0);
        position("p", 1);
        position("pa", 2);
        position("px", 1);
        position("pr", 2);
        position("pe1", 2);
        position("pea", 2);
        position("pairs", 4);
        position("prop", 4);
        position("prop ", 5);
        position("prop 1", 6);
        position("prop 111", 7);
        position("prop  11", 5);
        position("prop 11;", 8);
        position("prop 11;;", 8);
        position("prop 11 ", 7);
        position("Prop 11", 0);
        position("dancer 11", 9);
        position("dancer 11*", 10);
        position("dancer 11*x", 10);
        position("dancer 11*200", 12);
        position("dancer 1*2", 8);
        position("pair 1&", 7);
        position("pair 123&4", 7);
        position("pair 1&123", 9);
        position("pair 1 2", 6);
        position("figure 1", 8);
        position("figure 11:U", 8);
        position("figure 1:UDLRSX", 14);
        position("figure 1:u", 9);
        position("figure 1: ", 9);
        position("perform 1", 9);
        position("perform 1 ", 10);
        position("perform 11 1", 9);
        position("perform 1 123", 12);
        position("walk 1>", 7);
        position("walk 1>12", -1);
        position("walk 1>1", 8);
        position("walk 1>123", 9);
        position("walk 1-12", 6);
        position("exit 1", 6);
        position("exit 111", 7);
        position("nails ", 6);
        position("nails 111", 8);
        position("nail 1", 4);
        position("leav", 4);
        position("leave ", 5);
        position("leave;", 6);
        position("leave;leavf", 10);
        position("leave;nails 1;dancer 12*", 24);
        position(";leave", 0);
    }

    /** Types a text that is not a program, or with the position -1 one that is. */
    private static void position(String text, int want) {
        StageBallet ballet = new StageBallet();
        for (char character : text.toCharArray()) {
            ballet.type(character);
        }
        Object answer = want < 0 ? "throws.UnsupportedOperationException" : "throws.IllegalArgumentException";
        Check.due(49, "run() of " + text, answer, ballet::run);
        Object due = want < 0 ? "throws.NoSuchElementException" : String.valueOf(want);
        Check.due(50, "errorPosition() of " + text, due, ballet::errorPosition);
    }

    private static void failures() {
        Script.run(51, """
                failedCommand() = throws.NoSuchElementException
                type "leav"
                run() = throws.IllegalArgumentException
                failedCommand() = throws.NoSuchElementException
                type "prop 00;prop 11;prop 00"
                run() = throws.UnsupportedOperationException
                failedCommand() = 2
                isFree(0, 0) = true
                isFree(1, 1) = true
                undo() = throws.IllegalStateException
                type "prop 00;prop 08"
                run() = throws.UnsupportedOperationException
                failedCommand() = 1
                type "prop 00"
                run() = 1
                failedCommand() = 1
                type "x"
                run() = throws.IllegalArgumentException
                failedCommand() = 1
                undo() = 0
                failedCommand() = 1
                """);
        // Each command fails where its method throws, and leaves nothing behind.
        fails("prop 80", 0);
        fails("dancer 00*21", 0);
        fails("dancer 00*1;dancer 00*1", 1);
        fails("pair 0&1", 0);
        fails("dancer 00*1;pair 0&0", 1);
        fails("figure 6:", 0);
        fails("figure 0:UUUUUUUUUUUUU", 0);
        fails("figure 0:;perform 0 0", 1);
        fails("dancer 00*1;figure 0:UU;perform 0 0", 2);
        fails("dancer 00*1;walk 0>02", 1);
        fails("dancer 00*1;walk 0>82", 1);
        fails("dancer 00*1;prop 77;walk 0>77", 2);
        fails("exit 00;exit 00", 1);
        fails("nails 0", 0);
        fails("leave", 0);
        fails("dancer 00*1;leave", 1);
        fails("exit 00;dancer 00*1;leave;leave", 3);
    }

    private static void fails(String text, int command) {
        Script.run(51, "type \"" + text + "\"\nrun() = throws.UnsupportedOperationException\n"
                + "failedCommand() = " + command + "\n" + """
                dancers() = 0
                exits() = 0
                isFree(0, 0) = true
                figureLength(0) = 0
                lostNails() = 0
                lostNailsByParts() = 0
                undo() = throws.IllegalStateException
                addDancer(0, 0, 1) = 0
                type('x') = 1
                """);
    }

    private static void undoing() {
        Script.run(52, """
                undo() = throws.IllegalStateException
                addProp(0, 0) = 1
                removeProp(0, 0) = 0
                addDancer(1, 1, 5) = 0
                addDancer(2, 1, 6) = 1
                pair(0, 1) = 1
                unpair(0) = 1
                addMove(0, 'L') = 1
                clearFigure(0) = 1
                undo() = 7
                figureLength(0) = 1
                undo() = 6
                figureLength(0) = 0
                undo() = 5
                partner(0) = 1
                undo() = 4
                partner(0) = throws.NoSuchElementException
                undo() = 3
                dancers() = 1
                addDancer(3, 3, 3) = 1
                undo() = 3
                undo() = 2
                dancers() = 0
                undo() = 1
                isFree(0, 0) = false
                undo() = 0
                isFree(0, 0) = true
                undo() = throws.IllegalStateException
                """);
        Script.run(52, """
                addDancer(1, 1, 5) = 0
                type "figure 0:R;exit 55"
                run() = 2
                perform(0, 0) = 1
                walk(0, 2, 2) = 3
                renewNails(0) = 3
                removeExit(0) = 0
                addExit(5, 6) = 0
                leaveAll() = 7
                addDancer(1, 1, 5) = 1
                removeDancer(1) = 0
                undo() = 7
                isPresent(1) = true
                undo() = 6
                isPresent(1) = false
                isPresent(0) = false
                undo() = 5
                isPresent(0) = true
                undo() = 4
                exits() = 0
                undo() = 3
                exits() = 1
                nails(0) = 20
                undo() = 2
                nails(0) = 3
                lostNails() = 2
                lostNailsByParts() = 2
                undo() = 1
                row(0) = 1
                nails(0) = 4
                lostNails() = 1
                undo() = 0
                column(0) = 1
                figureLength(0) = 1
                lostNails() = 0
                undo() = throws.IllegalStateException
                """);
        // Changes without an effect count; questions and calls that throw do not; nine are too many.
        Script.run(52, """
                addDancer(1, 1, 20) = 0
                walk(0, 1, 1) = 20
                renewNails(0) = 20
                clearFigure(3) = 0
                perform(3, 0) = 0
                addDancer(1, 1, 20) = throws.IllegalStateException
                save() = 1
                type('x') = 1
                run() = throws.IllegalArgumentException
                type "nails 9"
                run() = throws.UnsupportedOperationException
                writeRow(1) = 8
                undo() = 4
                addProp(0, 0) = 1
                addProp(0, 1) = 2
                addProp(0, 2) = 3
                addProp(0, 3) = 4
                addProp(0, 4) = 5
                undo() = 7
                undo() = 6
                undo() = 5
                undo() = 4
                undo() = 3
                isFree(0, 0) = true
                undo() = 2
                undo() = 1
                undo() = 0
                isPresent(0) = true
                undo() = throws.IllegalStateException
                charAt(1) = 0
                """);
        Script.run(52, """
                type "prop 00;prop 11;figure 0:UU;dancer 22*2"
                run() = 4
                type('l') = 1
                undo() = 0
                isFree(0, 0) = true
                isFree(1, 1) = true
                figureLength(0) = 0
                dancers() = 0
                type('e') = 2
                """);
    }

    private static void snapshots() {
        Script.run(53, """
                save() = 0
                addDancer(0, 0, 1) = 0
                addDancer(1, 0, 1) = 1
                save() = 2
                removeDancer(0) = 1
                restore() = 2
                isPresent(0) = true
                addProp(5, 5) = 1
                save() = 2
                undo() = 0
                isFree(5, 5) = true
                restore() = 2
                isFree(5, 5) = false
                """);
        Script.run(54, """
                restore() = throws.IllegalStateException
                addDancer(0, 0, 9) = 0
                addDancer(1, 0, 9) = 1
                addDancer(2, 0, 9) = 2
                pair(0, 2) = 1
                addProp(4, 4) = 1
                addExit(4, 5) = 0
                addMove(1, 'U') = 1
                save() = 3
                perform(1, 1) = 1
                unpair(0) = 2
                removeDancer(1) = 2
                removeProp(4, 4) = 0
                addExit(4, 6) = 1
                clearFigure(1) = 1
                addDancer(7, 7, 7) = 3
                writeRow(7) = 8
                type "lea"
                restore() = 3
                undo() = throws.IllegalStateException
                partner(0) = 2
                row(1) = 0
                nails(1) = 9
                isFree(4, 4) = false
                exits() = 1
                figureLength(1) = 1
                lostNails() = 0
                isPresent(3) = false
                charAt(7) = 3
                type('v') = 4
                addDancer(7, 7, 7) = 3
                undo() = 0
                removeDancer(0) = 2
                restore() = 3
                isPresent(0) = true
                undo() = throws.IllegalStateException
                isConsistent() = true
                """);
    }
}
