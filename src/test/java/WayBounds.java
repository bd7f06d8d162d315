/** The sentences about distances and walking: promises 25 to 27. */
final class WayBounds {
    private WayBounds() {
    }

    static void test() {
        for (int promise = 25; promise <= 26; promise++) {
            lengths(promise, promise == 25 ? "distance" : "distanceByRounds");
            refusals(promise, promise == 25 ? "distance" : "distanceByRounds");
        }
        walk();
        refusedWalks();
        nailsForWalks();
        orderOfExceptions();
    }

    private static void lengths(int promise, String call) {
        String shortest = promise == 25 ? "that does not lead over cells of other dancers, nor to one of them"
                : "Returns the same length, by improving the distances of all cells in rounds";
        Sentence.holds(promise, shortest, """
                addDancer(0, 0, 0) = 0
                addDancer(7, 7, 20) = 1
                IT(0, 7, 6) = 13
                IT(0, 7, 7) = throws.NoSuchElementException
                IT(1, 0, 1) = 13
                IT(1, 0, 0) = throws.NoSuchElementException
                removeDancer(1) = 1
                IT(0, 7, 7) = 14
                IT(0, 7, 0) = 7
                IT(0, 0, 7) = 7
                """.replace("IT", call));
        // Round other dancers as round props, also round the own partner.
        Sentence.holds(promise, shortest, (Lines.dancers(7, 3, 0) + """
                addDancer(3, 2, 0) = 7
                pair(7, 3) = 1
                IT(7, 3, 4) = 10
                IT(3, 3, 4) = 1
                IT(3, 3, 2) = throws.NoSuchElementException
                IT(2, 2, 0) = 3
                IT(3, 3, 0) = 13
                removeDancer(5) = 7
                IT(7, 3, 4) = 6
                """).replace("IT", call));
        Sentence.holds(promise, shortest, ("addDancer(0, 0, 0) = 0\n" + Lines.snake()
                + "IT(0, 6, 0) = 32\nIT(0, 7, 0) = 33\nIT(0, 7, 7) = 28\nIT(0, 4, 2) = 20\nIT(0, 4, 3) = 21\n")
                .replace("IT", call));
        Sentence.holds(promise, shortest, ("addDancer(7, 0, 0) = 0\n" + Lines.snake()
                + "IT(0, 0, 0) = 33\nIT(0, 2, 7) = 24\nIT(0, 5, 6) = 8\n").replace("IT", call));
        Sentence.holds(promise, "Returns the length, 0 to the own cell.", """
                addDancer(0, 7, 0) = 0
                addDancer(7, 0, 0) = 1
                addProp(0, 6) = 1
                addProp(1, 7) = 2
                IT(0, 0, 7) = 0
                IT(1, 7, 0) = 0
                IT(1, 6, 0) = 1
                IT(0, 1, 6) = throws.NoSuchElementException
                """.replace("IT", call));
    }

    private static void refusals(int promise, String call) {
        String none = "if there is no such dancer, or the cell exists and there is no such way";
        Sentence.holds(promise, none, (Lines.each("IT(N, 0, 0)", "throws.NoSuchElementException", 0)
                + Lines.noDancers("IT(N, 0, 0)") + Lines.dancers(2, 0, 5) + Lines.noDancers("IT(N, 0, 0)")
                + Lines.noDancers("IT(N, 7, 7)") + "IT(2, 7, 7) = throws.NoSuchElementException\n"
                + "removeDancer(0) = 1\nIT(0, 0, 0) = throws.NoSuchElementException\nIT(1, 0, 0) = 1\n")
                .replace("IT", call));
        Sentence.holds(promise, none, """
                addDancer(0, 0, 20) = 0
                addProp(3, 3) = 1
                IT(0, 3, 3) = throws.NoSuchElementException
                addProp(7, 6) = 2
                IT(0, 7, 7) = 14
                addProp(6, 7) = 3
                IT(0, 7, 7) = throws.NoSuchElementException
                addDancer(0, 1, 20) = 1
                IT(0, 0, 1) = throws.NoSuchElementException
                IT(0, 0, 2) = 4
                addDancer(1, 0, 20) = 2
                IT(0, 0, 2) = throws.NoSuchElementException
                IT(0, 0, 0) = 0
                removeProp(6, 7) = 2
                IT(1, 7, 7) = 13
                """.replace("IT", call));
        StringBuilder corners = new StringBuilder("addDancer(3, 3, 0) = 0\n");
        int[] lengths = {6, 7, 7, 8};
        for (int k = 0; k < 4; k++) {
            corners.append(Lines.at(Lines.CORNERS[k], call + "(0, X, Y) = " + lengths[k]));
        }
        Sentence.holds(promise, "Throws `IndexOutOfBoundsException` if there is no such cell",
                corners + Lines.noCells(call + "(0, X, Y)"));
    }

    private static void walk() {
        Sentence.holds(27, "by which the dancer loses as many nails as its length", """
                addDancer(0, 0, 20) = 0
                addProp(1, 0) = 1
                addDancer(1, 1, 20) = 1
                walk(0, 2, 0) = 14
                column(0) = 2
                row(0) = 0
                nails(0) = 14
                nails(1) = 20
                isFree(0, 0) = true
                isFree(2, 0) = false
                lostNails() = 6
                lostNailsByParts() = 6
                walk(0, 2, 0) = 14
                lostNails() = 6
                """);
        Sentence.holds(27, "The partner stays.", """
                addDancer(0, 0, 9) = 0
                addDancer(4, 4, 7) = 1
                pair(0, 1) = 1
                walk(0, 2, 0) = 7
                column(1) = 4
                row(1) = 4
                nails(1) = 7
                partner(0) = 1
                walk(1, 4, 7) = 4
                column(0) = 2
                row(0) = 0
                nails(0) = 7
                lostNails() = 5
                """);
        Sentence.holds(27, "Returns the number of nails that are left.", """
                addDancer(0, 0, 20) = 0
                walk(0, 0, 0) = 20
                walk(0, 7, 7) = 6
                walk(0, 7, 6) = 5
                walk(0, 7, 1) = 0
                walk(0, 7, 1) = 0
                renewNails(0) = 0
                walk(0, 0, 7) = 7
                """);
        Sentence.holds(27, "Throws `NoSuchElementException` if there is no such dancer",
                "walk(0, 0, 0) = throws.NoSuchElementException\n" + Lines.dancers(2, 0, 5)
                + Lines.noDancers("walk(N, 5, 5)") + Lines.noDancers("walk(N, 0, 0)")
                + "walk(2, 0, 0) = throws.NoSuchElementException\nremoveDancer(0) = 1\n"
                + "walk(0, 0, 0) = throws.NoSuchElementException\nwalk(1, 0, 0) = 4\n");
        String noCell = "Throws `IndexOutOfBoundsException` if there is no such cell";
        for (int[] corner : Lines.CORNERS) {
            Sentence.holds(27, noCell, "addDancer(3, 3, 8) = 0\n"
                    + Lines.at(corner, "walk(0, X, Y) = " + (8 - Math.abs(corner[0] - 3) - Math.abs(corner[1] - 3)))
                    + "column(0) = " + corner[0] + "\nrow(0) = " + corner[1] + "\n");
        }
        Sentence.holds(27, noCell, "addDancer(0, 0, 20) = 0\n" + Lines.noCells("walk(0, X, Y)") + "column(0) = 0\n");
    }

    private static void refusedWalks() {
        Sentence.holds(27, "Throws `UnsupportedOperationException` if there is no such way", """
                addDancer(0, 0, 20) = 0
                addProp(3, 3) = 1
                walk(0, 3, 3) = throws.UnsupportedOperationException
                addProp(7, 6) = 2
                addProp(6, 7) = 3
                walk(0, 7, 7) = throws.UnsupportedOperationException
                addDancer(0, 1, 20) = 1
                walk(0, 0, 1) = throws.UnsupportedOperationException
                addDancer(1, 0, 20) = 2
                walk(0, 0, 2) = throws.UnsupportedOperationException
                walk(0, 1, 1) = throws.UnsupportedOperationException
                pair(0, 2) = 1
                walk(0, 1, 1) = throws.UnsupportedOperationException
                walk(0, 1, 0) = throws.UnsupportedOperationException
                walk(0, 0, 0) = 20
                removeDancer(2) = 2
                walk(0, 0, 2) = 16
                """);
    }

    private static void nailsForWalks() {
        String few = "Throws `IllegalStateException` if the dancer has fewer nails than the length";
        for (int nails = 0; nails <= 14; nails++) {
            int x = Math.min(7, nails);
            int beyondX = Math.min(7, nails + 1);
            String lines = "addDancer(0, 0, " + nails + ") = 0\n";
            if (nails < 14) {
                lines += "walk(0, " + beyondX + ", " + (nails + 1 - beyondX) + ") = throws.IllegalStateException\n";
            }
            Sentence.holds(27, few, lines + "nails(0) = " + nails + "\nwalk(0, " + x + ", " + (nails - x)
                    + ") = 0\nlostNails() = " + nails + "\n");
        }
        // Even all twenty nails are too few for the whole way round the props.
        Sentence.holds(27, few, "addDancer(0, 0, 20) = 0\n" + Lines.snake() + """
                walk(0, 6, 0) = throws.IllegalStateException
                walk(0, 4, 3) = throws.IllegalStateException
                walk(0, 4, 2) = 0
                lostNails() = 20
                walk(0, 4, 3) = throws.IllegalStateException
                """);
        Sentence.holds(27, few, "addDancer(0, 0, 19) = 0\n" + Lines.snake() + """
                walk(0, 4, 2) = throws.IllegalStateException
                walk(0, 4, 1) = 0
                """);
    }

    private static void orderOfExceptions() {
        String order = "the exception that is listed first is thrown";
        for (String call : new String[] {"distance", "distanceByRounds", "walk"}) {
            // No such dancer comes before no such cell.
            Sentence.holds(Sentence.TERMS, order, Lines.noDancers(call + "(N, 8, 0)") + Lines.dancers(2, 0, 0)
                    + Lines.noDancers(call + "(N, 0, -1)") + Lines.noDancers(call + "(N, -1, 8)"));
            // To a cell that does not exist there is no way either, and all nails are too few.
            Sentence.holds(Sentence.TERMS, order, "addDancer(0, 0, 0) = 0\naddProp(0, 1) = 1\naddProp(1, 0) = 2\n"
                    + Lines.noCells(call + "(0, X, Y)"));
        }
        // No such way comes before too few nails.
        Sentence.holds(Sentence.TERMS, order, """
                addDancer(0, 0, 0) = 0
                addProp(0, 1) = 1
                addDancer(3, 3, 20) = 1
                walk(0, 0, 1) = throws.UnsupportedOperationException
                walk(0, 3, 3) = throws.UnsupportedOperationException
                walk(0, 1, 0) = throws.IllegalStateException
                addProp(1, 0) = 2
                walk(0, 7, 7) = throws.UnsupportedOperationException
                """);
    }
}
