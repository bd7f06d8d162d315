/** The sentences about exits and leaving: promises 28 to 35, and the terms of exits. */
final class ExitBounds {
    private static final String COST = "exitCost()";
    private static final String COST_BY_POTENTIALS = "exitCostByPotentials()";

    private ExitBounds() {
    }

    static void test() {
        addExit();
        removeExit();
        exits();
        exitDistance();
        costs();
        noPlan();
        exitOf();
        leaveAll();
        exitsInTheTerms();
        bestPlan();
        orderOfExceptions();
    }

    private static void addExit() {
        Sentence.holds(28, "Adds an exit.", """
                addDancer(6, 1, 0) = 0
                addExit(6, 3) = 0
                exits() = 1
                exitDistance(0, 0) = 2
                isFree(6, 3) = true
                areas() = 1
                """);
        Sentence.holds(28, "Returns the index of the exit.", Lines.exits(6, 3)
                + "removeExit(0) = 5\naddExit(0, 3) = 5\nremoveExit(5) = 5\nremoveExit(0) = 4\naddExit(7, 7) = 4\n");
        String noCell = "Throws `IndexOutOfBoundsException` if there is no such cell";
        for (int[] corner : Lines.CORNERS) {
            Sentence.holds(28, noCell, Lines.at(corner, "addExit(X, Y) = 0"));
        }
        Sentence.holds(28, noCell, Lines.noCells("addExit(X, Y)") + "exits() = 0\naddExit(0, 0) = 0\n");
        String refused = "Throws `IllegalStateException` if an exit is at this cell, or there are 6 exits";
        Sentence.holds(28, refused, """
                addExit(0, 0) = 0
                addExit(0, 0) = throws.IllegalStateException
                addExit(7, 7) = 1
                addExit(0, 0) = throws.IllegalStateException
                addExit(7, 7) = throws.IllegalStateException
                exits() = 2
                removeExit(0) = 1
                addExit(7, 7) = throws.IllegalStateException
                addExit(0, 0) = 1
                """);
        Sentence.holds(28, refused, Lines.exits(5, 0) + """
                addExit(4, 0) = throws.IllegalStateException
                addExit(7, 7) = 5
                addExit(6, 7) = throws.IllegalStateException
                addExit(7, 7) = throws.IllegalStateException
                exits() = 6
                removeExit(2) = 5
                addExit(6, 7) = 5
                addExit(2, 0) = throws.IllegalStateException
                """);
    }

    private static void removeExit() {
        Sentence.holds(29, "Removes an exit.", "addDancer(0, 0, 0) = 0\n" + Lines.exits(6, 0) + """
                removeExit(3) = 5
                exitDistance(0, 2) = 2
                exitDistance(0, 3) = 4
                exitDistance(0, 4) = 5
                exitDistance(0, 5) = throws.IndexOutOfBoundsException
                addExit(3, 0) = 5
                exitDistance(0, 5) = 3
                removeExit(0) = 5
                exitDistance(0, 0) = 1
                removeExit(4) = 4
                exitDistance(0, 3) = 5
                """);
        Sentence.holds(29, "Returns the number of exits afterwards.", Lines.exits(6, 0)
                + "removeExit(0) = 5\nremoveExit(4) = 4\nremoveExit(1) = 3\nremoveExit(0) = 2\nremoveExit(1) = 1\n"
                + "removeExit(0) = 0\n");
        Sentence.holds(29, "Throws `IndexOutOfBoundsException` if there is no such exit",
                Lines.each("removeExit(N)", "throws.IndexOutOfBoundsException", 0, -1, 1, Lines.LEAST, Lines.MOST)
                + Lines.exits(6, 0)
                + Lines.each("removeExit(N)", "throws.IndexOutOfBoundsException", -1, 6, 7, Lines.LEAST, Lines.MOST)
                + "removeExit(5) = 5\nremoveExit(5) = throws.IndexOutOfBoundsException\nremoveExit(0) = 4\n"
                + "removeExit(4) = throws.IndexOutOfBoundsException\n");
    }

    private static void exits() {
        StringBuilder counted = new StringBuilder("exits() = 0\n");
        for (int k = 0; k < 6; k++) {
            counted.append("addExit(7, ").append(k).append(") = ").append(k).append("\nexits() = ").append(k + 1)
                    .append('\n');
        }
        Sentence.holds(30, "Returns the number of exits.", counted
                + "addExit(0, 0) = throws.IllegalStateException\nexits() = 6\nremoveExit(5) = 5\nexits() = 5\n"
                + "addDancer(7, 0, 0) = 0\nleaveAll() = 0\nexits() = 5\n");
    }

    private static void exitDistance() {
        String plain = """
                addDancer(0, 0, 0) = 0
                addDancer(1, 0, 20) = 1
                addExit(0, 0) = 0
                addExit(7, 7) = 1
                addExit(2, 0) = 2
                """;
        Sentence.holds(31, "Returns the exit distance of a dancer and an exit.", plain + """
                exitDistance(0, 1) = 14
                exitDistance(1, 1) = 13
                exitDistance(1, 2) = 1
                exitDistance(0, 2) = 2
                addProp(1, 7) = 1
                exitDistance(0, 1) = 14
                """);
        // Other dancers do not matter: not on the way, and not at the exit.
        Sentence.holds(31, "Returns the exit distance.", plain + """
                exitDistance(0, 0) = 0
                exitDistance(1, 0) = 1
                pair(0, 1) = 1
                exitDistance(0, 2) = 2
                """);
        Sentence.holds(31, "Returns the exit distance.", "addDancer(0, 0, 0) = 0\n" + Lines.snake()
                + "addExit(6, 0) = 0\nexitDistance(0, 0) = 32\n");
        String none = "if there is no such dancer, or the exit exists and there is no exit distance";
        Sentence.holds(31, none, plain + Lines.noDancers("exitDistance(N, 0)") + """
                exitDistance(2, 0) = throws.NoSuchElementException
                addProp(2, 0) = 1
                exitDistance(0, 2) = throws.NoSuchElementException
                exitDistance(0, 1) = 14
                addProp(7, 6) = 2
                addProp(6, 7) = 3
                exitDistance(0, 1) = throws.NoSuchElementException
                exitDistance(1, 1) = throws.NoSuchElementException
                removeProp(6, 7) = 2
                exitDistance(0, 1) = 14
                removeDancer(0) = 1
                exitDistance(0, 1) = throws.NoSuchElementException
                """);
        Sentence.holds(31, "Throws `IndexOutOfBoundsException` if there is no such exit", "addDancer(0, 0, 0) = 0\n"
                + Lines.each("exitDistance(0, N)", "throws.IndexOutOfBoundsException", 0, 1, -1, Lines.LEAST, Lines.MOST)
                + Lines.exits(6, 1) + "exitDistance(0, 5) = 6\nexitDistance(0, 0) = 1\n"
                + Lines.each("exitDistance(0, N)", "throws.IndexOutOfBoundsException", 6, 7, -1, Lines.LEAST, Lines.MOST)
                + "removeExit(0) = 5\nexitDistance(0, 5) = throws.IndexOutOfBoundsException\n"
                + "exitDistance(0, 4) = 6\n");
    }

    private static void costs() {
        for (int promise = 32; promise <= 33; promise++) {
            String call = promise == 32 ? COST : COST_BY_POTENTIALS;
            String best = promise == 32 ? "Returns the cost of the best exit plan, by a table over all sets of exits."
                    : "Returns the same cost, by the Hungarian algorithm with potentials.";
            // Six dancers and six exits; each dancer at an exit, then each one row away.
            Sentence.holdsForEach(promise, best, Lines.dancers(6, 0, 0) + Lines.exits(6, 0) + "IT = 0\n", call);
            Sentence.holdsForEach(promise, best, Lines.dancers(6, 0, 0) + Lines.exits(6, 7) + "IT = 42\n", call);
            // The smallest distance of each would be to the same exit.
            Sentence.holdsForEach(promise, best, Lines.dancers(6, 0, 0) + """
                    addExit(0, 0) = 0
                    IT = throws.NoSuchElementException
                    addExit(0, 7) = 1
                    addExit(1, 7) = 2
                    addExit(2, 7) = 3
                    addExit(3, 7) = 4
                    IT = throws.NoSuchElementException
                    addExit(4, 7) = 5
                    IT = 40
                    """, call);
            // The longest ways round the props, both for one dancer and for two in a row.
            Sentence.holdsForEach(promise, best, Lines.snake() + """
                    addDancer(0, 0, 0) = 0
                    addExit(7, 0) = 0
                    IT = 33
                    addDancer(0, 1, 0) = 1
                    IT = throws.NoSuchElementException
                    addExit(6, 0) = 1
                    IT = 64
                    addExit(0, 2) = 2
                    IT = 33
                    """, call);
            // Dancers who have to give up a nearest exit one after the other.
            Sentence.holdsForEach(promise, best, """
                    addDancer(2, 4, 0) = 0
                    addDancer(1, 5, 0) = 1
                    addDancer(2, 0, 0) = 2
                    addDancer(4, 2, 0) = 3
                    addDancer(0, 5, 0) = 4
                    addExit(1, 1) = 0
                    addExit(4, 0) = 1
                    addExit(4, 1) = 2
                    addExit(1, 5) = 3
                    addExit(0, 2) = 4
                    IT = 10
                    """, call);
            Sentence.holdsForEach(promise, best, """
                    addDancer(1, 1, 0) = 0
                    addDancer(1, 0, 0) = 1
                    addExit(0, 1) = 0
                    addExit(2, 2) = 1
                    addExit(0, 0) = 2
                    addExit(1, 2) = 3
                    addExit(2, 1) = 4
                    addExit(1, 0) = 5
                    IT = 1
                    """, call);
            Sentence.holdsForEach(promise, best, """
                    addDancer(0, 1, 0) = 0
                    addDancer(2, 0, 0) = 1
                    addDancer(0, 0, 0) = 2
                    addDancer(1, 0, 0) = 3
                    addDancer(1, 1, 0) = 4
                    addDancer(2, 1, 0) = 5
                    addExit(2, 1) = 0
                    addExit(1, 0) = 1
                    addExit(0, 1) = 2
                    addExit(1, 2) = 3
                    addExit(2, 0) = 4
                    addExit(0, 0) = 5
                    IT = 1
                    """, call);
            String zero = "Returns the cost, 0 without dancers.";
            Sentence.holdsForEach(promise, zero, "IT = 0\n" + Lines.exits(6, 0) + "IT = 0\naddDancer(0, 1, 0) = 0\n"
                    + "IT = 1\nremoveDancer(0) = 0\nIT = 0\n", call);
        }
    }

    private static void noPlan() {
        String none = "Throws `NoSuchElementException` if there is no exit plan";
        for (int promise = 32; promise <= 33; promise++) {
            String call = promise == 32 ? COST : COST_BY_POTENTIALS;
            // One dancer more than exits, up to the full stage.
            for (int exits = 0; exits <= 6; exits++) {
                Sentence.holdsForEach(promise, none, Lines.exits(exits, 0) + Lines.dancers(exits, 1, 0)
                        + "IT = " + exits + "\naddDancer(7, 7, 0) = " + exits
                        + "\nIT = throws.NoSuchElementException\n", call);
            }
            Sentence.holdsForEach(promise, none, Lines.exits(6, 0) + Lines.dancers(8, 1, 0)
                    + "IT = throws.NoSuchElementException\nremoveDancer(0) = 7\nIT = throws.NoSuchElementException\n"
                    + "removeDancer(7) = 6\nIT = 12\n", call);
            // An exit with a prop is none, and a dancer shut in has none.
            Sentence.holdsForEach(promise, none, """
                    addDancer(0, 0, 0) = 0
                    addDancer(7, 7, 0) = 1
                    addExit(0, 1) = 0
                    addExit(7, 6) = 1
                    IT = 2
                    addProp(7, 6) = 1
                    IT = throws.NoSuchElementException
                    addExit(7, 7) = 2
                    IT = 1
                    addProp(6, 7) = 2
                    IT = 1
                    removeExit(2) = 2
                    addExit(4, 4) = 2
                    IT = throws.NoSuchElementException
                    removeProp(6, 7) = 1
                    IT = 7
                    """, call);
            // Two dancers shut in with a single exit, though there are enough exits outside.
            Sentence.holdsForEach(promise, none, """
                    addDancer(0, 0, 0) = 0
                    addDancer(0, 1, 0) = 1
                    addProp(1, 0) = 1
                    addProp(1, 1) = 2
                    addProp(0, 2) = 3
                    addExit(0, 0) = 0
                    addExit(5, 5) = 1
                    addExit(6, 5) = 2
                    IT = throws.NoSuchElementException
                    addExit(0, 1) = 3
                    IT = 0
                    """, call);
        }
    }

    private static void exitOf() {
        String gives = "Returns the exit that the best exit plan gives a dancer.";
        Sentence.holds(34, gives, Lines.exits(6, 0) + Lines.dancers(6, 0, 0)
                + "exitOf(0) = 0\nexitOf(1) = 1\nexitOf(2) = 2\nexitOf(3) = 3\nexitOf(4) = 4\nexitOf(5) = 5\n");
        Sentence.holds(34, gives, Lines.exits(6, 7) + """
                addDancer(5, 0, 0) = 0
                addDancer(3, 0, 0) = 1
                addDancer(0, 0, 0) = 2
                exitOf(0) = 5
                exitOf(1) = 3
                exitOf(2) = 0
                removeDancer(0) = 2
                exitOf(1) = 3
                exitOf(2) = 0
                removeExit(1) = 5
                exitOf(1) = 2
                """);
        Sentence.holds(34, "Returns the index of the exit.", """
                addDancer(0, 0, 0) = 0
                addExit(7, 7) = 0
                addExit(7, 6) = 1
                addExit(0, 0) = 2
                exitOf(0) = 2
                addProp(0, 0) = throws.IllegalStateException
                addExit(1, 0) = 3
                walk(0, 0, 0) = 0
                exitOf(0) = 2
                removeExit(2) = 3
                exitOf(0) = 2
                removeExit(2) = 2
                exitOf(0) = 1
                """);
        String none = "Throws `NoSuchElementException` if there is no such dancer, or there is no exit plan";
        Sentence.holds(34, none, "exitOf(0) = throws.NoSuchElementException\n" + Lines.exits(6, 0)
                + "exitOf(0) = throws.NoSuchElementException\n" + Lines.noDancers("exitOf(N)") + Lines.dancers(6, 1, 0)
                + Lines.noDancers("exitOf(N)") + """
                exitOf(6) = throws.NoSuchElementException
                exitOf(5) = 5
                addDancer(7, 7, 0) = 6
                exitOf(0) = throws.NoSuchElementException
                exitOf(6) = throws.NoSuchElementException
                removeDancer(0) = 6
                exitOf(0) = throws.NoSuchElementException
                exitOf(1) = 0
                """);
        Sentence.holds(34, none, """
                addDancer(0, 0, 0) = 0
                exitOf(0) = throws.NoSuchElementException
                addExit(1, 1) = 0
                exitOf(0) = 0
                addProp(1, 1) = 1
                exitOf(0) = throws.NoSuchElementException
                """);
    }

    private static void leaveAll() {
        Sentence.holds(35, "Lets all dancers leave the stage by the best exit plan; they go away with their nails.",
                Lines.exits(6, 0) + Lines.dancers(6, 2, 20) + """
                pair(0, 5) = 1
                walk(0, 0, 1) = 19
                leaveAll() = 11
                dancers() = 0
                isPresent(0) = false
                isPresent(5) = false
                isFree(0, 1) = true
                isFree(5, 2) = true
                exits() = 6
                lostNails() = 1
                lostNailsByParts() = 1
                addDancer(0, 1, 3) = 6
                partner(6) = throws.NoSuchElementException
                lostNailsByParts() = 1
                leaveAll() = 1
                """);
        Sentence.holds(35, "Returns the cost of the plan.", """
                addDancer(1, 0, 0) = 0
                addDancer(2, 0, 0) = 1
                addExit(0, 0) = 0
                addExit(6, 0) = 1
                exitCost() = 5
                leaveAll() = 5
                """);
        Sentence.holds(35, "Returns the cost of the plan.", "addDancer(0, 0, 0) = 0\n" + Lines.snake()
                + "addExit(7, 0) = 0\nleaveAll() = 33\n");
        Sentence.holds(35, "Returns the cost of the plan.", "addDancer(0, 0, 0) = 0\naddExit(0, 0) = 0\n"
                + "leaveAll() = 0\n");
        Sentence.holds(35, "Throws `IllegalStateException` if there are no dancers", """
                leaveAll() = throws.IllegalStateException
                addExit(0, 0) = 0
                leaveAll() = throws.IllegalStateException
                addDancer(0, 0, 0) = 0
                leaveAll() = 0
                leaveAll() = throws.IllegalStateException
                addDancer(0, 0, 0) = 1
                removeDancer(1) = 0
                leaveAll() = throws.IllegalStateException
                """);
        String noPlan = "Throws `UnsupportedOperationException` if there is no exit plan";
        Sentence.holds(35, noPlan, Lines.exits(6, 0) + Lines.dancers(7, 1, 0) + """
                leaveAll() = throws.UnsupportedOperationException
                dancers() = 7
                removeDancer(6) = 6
                addProp(0, 0) = 1
                leaveAll() = throws.UnsupportedOperationException
                removeProp(0, 0) = 0
                leaveAll() = 6
                """);
        Sentence.holds(35, noPlan, "addDancer(0, 0, 0) = 0\nleaveAll() = throws.UnsupportedOperationException\n"
                + "addExit(1, 1) = 0\naddProp(0, 1) = 1\naddProp(1, 0) = 2\n"
                + "leaveAll() = throws.UnsupportedOperationException\nisPresent(0) = true\n");
    }

    private static void exitsInTheTerms() {
        Sentence.holds(Sentence.TERMS, "There are at most 6 exits.", Lines.exits(5, 0) + """
                type "exit 77;exit 67"
                run() = throws.UnsupportedOperationException
                failedCommand() = 1
                exits() = 5
                type "exit 77"
                run() = 1
                addExit(6, 7) = throws.IllegalStateException
                exits() = 6
                """);
        String cells = "no two exits are at the same cell; a cell with an exit can have a prop.";
        Sentence.holds(Sentence.TERMS, cells, """
                addProp(2, 2) = 1
                addExit(2, 2) = 0
                addExit(2, 2) = throws.IllegalStateException
                addExit(3, 2) = 1
                addProp(3, 2) = 2
                addExit(3, 2) = throws.IllegalStateException
                removeProp(2, 2) = 1
                addDancer(2, 2, 0) = 0
                addDancer(4, 4, 0) = 1
                addExit(4, 4) = 2
                exitDistance(0, 0) = 0
                exitDistance(1, 2) = 0
                """);
        Sentence.holds(Sentence.TERMS, "The exits have the indices 0, 1 and so on in the order in which they were added",
                "addDancer(0, 7, 0) = 0\n" + Lines.exits(6, 7) + """
                exitDistance(0, 0) = 0
                exitDistance(0, 5) = 5
                removeExit(2) = 5
                exitDistance(0, 1) = 1
                exitDistance(0, 2) = 3
                exitDistance(0, 4) = 5
                removeExit(0) = 4
                exitDistance(0, 0) = 1
                exitDistance(0, 3) = 5
                removeExit(3) = 3
                exitDistance(0, 2) = 4
                addExit(7, 7) = 3
                exitDistance(0, 3) = 7
                """);
        Sentence.holds(Sentence.TERMS, "where other dancers do not matter; there is none to a cell with a prop", """
                addDancer(0, 0, 0) = 0
                addDancer(1, 0, 0) = 1
                addDancer(0, 1, 0) = 2
                addExit(1, 1) = 0
                addExit(1, 0) = 1
                exitDistance(0, 0) = 2
                exitDistance(0, 1) = 1
                addProp(1, 1) = 1
                exitDistance(0, 0) = throws.NoSuchElementException
                exitDistance(1, 0) = throws.NoSuchElementException
                distance(0, 2, 0) = throws.NoSuchElementException
                exitCost() = throws.NoSuchElementException
                """);
        String plan = "An exit plan gives every dancer a different exit that has an exit distance";
        Sentence.holdsForEach(Sentence.TERMS, plan, """
                addDancer(0, 0, 0) = 0
                addDancer(1, 0, 0) = 1
                addExit(0, 0) = 0
                IT = throws.NoSuchElementException
                addExit(7, 7) = 1
                IT = 13
                addExit(2, 0) = 2
                IT = 1
                addProp(2, 0) = 1
                IT = 13
                addProp(7, 7) = 2
                IT = throws.NoSuchElementException
                """, COST, COST_BY_POTENTIALS);
    }

    private static void bestPlan() {
        String best = "The best exit plan is the one with the smallest cost";
        // Each of 24 plans costs the same; the dancers get the exits by their numbers.
        Sentence.holds(Sentence.TERMS, best, Lines.exits(4, 0) + """
                addDancer(7, 3, 0) = 0
                addDancer(6, 3, 0) = 1
                addDancer(5, 3, 0) = 2
                addDancer(4, 3, 0) = 3
                exitOf(0) = 0
                exitOf(1) = 1
                exitOf(2) = 2
                exitOf(3) = 3
                exitCost() = 28
                removeDancer(0) = 3
                exitOf(1) = 1
                exitOf(2) = 2
                exitOf(3) = 3
                addDancer(7, 3, 0) = 4
                exitOf(4) = 3
                exitOf(1) = 0
                """);
        // The dancer with the smallest number gets the smallest index that a best plan allows.
        Sentence.holds(Sentence.TERMS, best, """
                addDancer(3, 3, 0) = 0
                addExit(3, 5) = 0
                addExit(3, 1) = 1
                exitOf(0) = 0
                addDancer(3, 4, 0) = 1
                exitOf(0) = 1
                exitOf(1) = 0
                exitCost() = 3
                """);
        // An exit that is given already is not given again, also to the dancer who stands at it.
        Sentence.holds(Sentence.TERMS, best, """
                addDancer(1, 0, 0) = 0
                addDancer(0, 0, 0) = 1
                addExit(0, 0) = 0
                addExit(0, 1) = 1
                exitCost() = 2
                exitOf(0) = 0
                exitOf(1) = 1
                """);
        // A greedy first dancer would cost more: the sum counts before the indices.
        Sentence.holds(Sentence.TERMS, best, """
                addDancer(3, 0, 0) = 0
                addDancer(1, 0, 0) = 1
                addExit(2, 0) = 0
                addExit(5, 0) = 1
                exitOf(0) = 1
                exitOf(1) = 0
                exitCost() = 3
                exitCostByPotentials() = 3
                """);
        // The dancer with the next number decides where the first ones are the same.
        Sentence.holds(Sentence.TERMS, best, """
                addDancer(0, 0, 0) = 0
                addDancer(4, 4, 0) = 1
                addDancer(4, 6, 0) = 2
                addExit(4, 7) = 0
                addExit(4, 5) = 1
                addExit(0, 0) = 2
                exitOf(0) = 2
                exitOf(1) = 1
                exitOf(2) = 0
                removeExit(0) = 2
                addExit(4, 7) = 2
                exitOf(0) = 1
                exitOf(1) = 0
                exitOf(2) = 2
                addExit(4, 3) = 3
                exitOf(1) = 0
                exitOf(2) = 2
                """);
    }

    private static void orderOfExceptions() {
        String order = "the exception that is listed first is thrown";
        Sentence.holds(Sentence.TERMS, order, Lines.exits(6, 0) + Lines.noCells("addExit(X, Y)"));
        // exitDistance: no such dancer comes before no such exit.
        Sentence.holds(Sentence.TERMS, order, Lines.noDancers("exitDistance(N, 0)")
                + Lines.noDancers("exitDistance(N, -1)") + "addDancer(0, 0, 0) = 0\n" + Lines.exits(6, 0)
                + Lines.noDancers("exitDistance(N, 6)") + "exitDistance(1, 6) = throws.NoSuchElementException\n");
        // Without dancers leaveAll answers so, whether there is an exit or not.
        Sentence.holds(Sentence.TERMS, order, "leaveAll() = throws.IllegalStateException\naddExit(0, 0) = 0\n"
                + "addProp(0, 0) = 1\nleaveAll() = throws.IllegalStateException\n");
    }
}
