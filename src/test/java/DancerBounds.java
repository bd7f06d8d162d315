/** The sentences about dancers, their nails, numbers and partners: promises 8 to 19. */
final class DancerBounds {
    private static final String ABSENT = "Throws `NoSuchElementException` if there is no such dancer";

    private DancerBounds() {
    }

    static void test() {
        addDancer();
        refusedDancers();
        removeDancer();
        pair();
        unpair();
        renewNails();
        dancersAndIsPresent();
        columnRowAndNails();
        partner();
        dancerByNails();
        numbers();
        nailsAndPartnersInTheTerms();
        orderOfExceptions();
    }

    private static void addDancer() {
        Sentence.holds(8, "Lets a dancer come.", """
                addDancer(6, 1, 13) = 0
                isPresent(0) = true
                column(0) = 6
                row(0) = 1
                nails(0) = 13
                partner(0) = throws.NoSuchElementException
                dancers() = 1
                isFree(6, 1) = false
                isFree(1, 6) = true
                lostNails() = 0
                lostNailsByParts() = 0
                """);
        Sentence.holds(8, "the number of nails, 0 to 20", """
                addDancer(0, 0, 0) = 0
                addDancer(1, 0, 20) = 1
                addDancer(2, 0, 1) = 2
                addDancer(3, 0, 19) = 3
                nails(0) = 0
                nails(1) = 20
                nails(2) = 1
                nails(3) = 19
                """);
        Sentence.holds(8, "if the number of nails is out of range",
                Lines.each("addDancer(0, 0, N)", "throws.IllegalArgumentException",
                        -1, 21, 22, 32, 256, 276, -236, Lines.LEAST, Lines.MOST)
                        + "dancers() = 0\naddDancer(0, 0, 20) = 0\n"
                        + Lines.each("addDancer(1, 0, N)", "throws.IllegalArgumentException", -1, 21)
                        + "addDancer(1, 0, 0) = 1\n");
        Sentence.holds(8, "Returns the number of the dancer.", Lines.dancers(8, 4, 3));
        Sentence.holds(8, "Returns the number of the dancer.", """
                addDancer(0, 0, 1) = 0
                addDancer(1, 0, 1) = 1
                removeDancer(0) = 1
                addDancer(0, 0, 1) = 2
                removeDancer(2) = 1
                addDancer(0, 0, 1) = 3
                """);
        String noCell = "Throws `IndexOutOfBoundsException` if there is no such cell";
        for (int[] corner : Lines.CORNERS) {
            Sentence.holds(8, noCell, Lines.at(corner, "addDancer(X, Y, 5) = 0")
                    + "column(0) = " + corner[0] + "\nrow(0) = " + corner[1] + "\n");
        }
        Sentence.holds(8, noCell, Lines.noCells("addDancer(X, Y, 5)") + "addDancer(0, 0, 5) = 0\n");
    }

    private static void refusedDancers() {
        String refused = "Throws `IllegalStateException` if the cell is not free, or there are 8 dancers";
        Sentence.holds(8, refused, """
                addProp(3, 4) = 1
                addDancer(3, 4, 5) = throws.IllegalStateException
                addDancer(4, 3, 5) = 0
                removeProp(3, 4) = 0
                addDancer(3, 4, 5) = 1
                """);
        Sentence.holds(8, refused, """
                addDancer(3, 4, 5) = 0
                addDancer(3, 4, 5) = throws.IllegalStateException
                walk(0, 3, 5) = 4
                addDancer(3, 5, 5) = throws.IllegalStateException
                addDancer(3, 4, 5) = 1
                removeDancer(0) = 1
                addDancer(3, 5, 5) = 2
                """);
        Sentence.holds(8, refused, "addExit(3, 4) = 0\naddDancer(3, 4, 5) = 0\n");
        Sentence.holds(8, refused, Lines.dancers(7, 0, 5) + """
                addDancer(7, 7, 5) = 7
                addDancer(6, 7, 5) = throws.IllegalStateException
                addDancer(7, 7, 5) = throws.IllegalStateException
                removeDancer(0) = 7
                addDancer(6, 7, 5) = 8
                addDancer(0, 0, 5) = throws.IllegalStateException
                dancers() = 8
                """);
        StringBuilder taken = new StringBuilder(Lines.dancers(7, 6, 5));
        for (int x = 0; x < 7; x++) {
            taken.append("addDancer(").append(x).append(", 6, 5) = throws.IllegalStateException\n");
        }
        Sentence.holds(8, refused, taken + "addDancer(7, 6, 5) = 7\n");
        Sentence.holds(Sentence.TERMS, "There are at most 8 dancers.", Lines.dancers(7, 0, 5) + """
                type "dancer 70*5;dancer 77*5"
                run() = throws.UnsupportedOperationException
                failedCommand() = 1
                dancers() = 7
                type "dancer 70*5"
                run() = 1
                dancers() = 8
                addDancer(7, 7, 5) = throws.IllegalStateException
                type "dancer 77*5"
                run() = throws.UnsupportedOperationException
                failedCommand() = 0
                """);
    }

    private static void removeDancer() {
        String goes = "Lets a dancer go away, whose partner has no partner then.";
        Sentence.holds(9, goes, """
                addDancer(0, 0, 1) = 0
                addDancer(1, 0, 2) = 1
                addDancer(2, 0, 3) = 2
                addDancer(3, 0, 4) = 3
                pair(0, 3) = 1
                pair(2, 1) = 2
                removeDancer(3) = 3
                isPresent(3) = false
                isFree(3, 0) = true
                partner(0) = throws.NoSuchElementException
                partner(1) = 2
                partner(2) = 1
                removeDancer(1) = 2
                partner(2) = throws.NoSuchElementException
                pair(2, 0) = 1
                nails(0) = 1
                nails(2) = 3
                column(2) = 2
                lostNails() = 0
                lostNailsByParts() = 0
                """);
        StringBuilder fromFirst = new StringBuilder(Lines.dancers(8, 0, 5));
        StringBuilder fromLast = new StringBuilder(Lines.dancers(8, 0, 5));
        for (int k = 0; k < 8; k++) {
            fromFirst.append("removeDancer(").append(k).append(") = ").append(7 - k).append('\n');
            fromLast.append("removeDancer(").append(7 - k).append(") = ").append(7 - k).append('\n');
        }
        Sentence.holds(9, "Returns the number of dancers afterwards.", fromFirst + "dancers() = 0\n");
        Sentence.holds(9, "Returns the number of dancers afterwards.", fromLast + "dancers() = 0\n");
        Sentence.holds(9, ABSENT, "removeDancer(0) = throws.NoSuchElementException\n"
                + Lines.noDancers("removeDancer(N)"));
        Sentence.holds(9, ABSENT, Lines.dancers(8, 0, 5) + Lines.noDancers("removeDancer(N)") + """
                removeDancer(8) = throws.NoSuchElementException
                removeDancer(7) = 7
                removeDancer(7) = throws.NoSuchElementException
                removeDancer(0) = 6
                removeDancer(0) = throws.NoSuchElementException
                """);
    }

    private static void pair() {
        Sentence.holds(10, "Makes two dancers partners.", """
                addDancer(0, 0, 1) = 0
                addDancer(7, 7, 2) = 1
                addDancer(3, 3, 3) = 2
                pair(2, 0) = 1
                partner(0) = 2
                partner(2) = 0
                partner(1) = throws.NoSuchElementException
                """);
        Sentence.holds(10, "Returns the number of pairs of partners afterwards.", Lines.dancers(8, 0, 5) + """
                pair(0, 1) = 1
                pair(7, 2) = 2
                pair(3, 6) = 3
                pair(5, 4) = 4
                unpair(2) = 7
                removeDancer(0) = 7
                pair(1, 2) = 3
                """);
        String absent = "Throws `NoSuchElementException` if there is no such dancer, for either";
        Sentence.holds(10, absent, "pair(0, 1) = throws.NoSuchElementException\n"
                + "addDancer(0, 0, 5) = 0\npair(0, 1) = throws.NoSuchElementException\n"
                + "pair(1, 0) = throws.NoSuchElementException\naddDancer(1, 0, 5) = 1\n"
                + Lines.noDancers("pair(N, 1)") + Lines.noDancers("pair(0, N)")
                + "pair(2, 1) = throws.NoSuchElementException\npair(0, 2) = throws.NoSuchElementException\n"
                + "addDancer(2, 0, 5) = 2\nremoveDancer(1) = 2\npair(0, 1) = throws.NoSuchElementException\n"
                + "pair(1, 0) = throws.NoSuchElementException\npair(0, 2) = 1\n");
        Sentence.holds(10, "Throws `IllegalArgumentException` if both are the same", Lines.dancers(8, 0, 5)
                + Lines.each("pair(N, N)", "throws.IllegalArgumentException", 0, 1, 2, 3, 4, 5, 6, 7)
                + "pair(0, 7) = 1\n");
        Sentence.holds(10, "Throws `IllegalStateException` if one of them has a partner",
                Lines.dancers(4, 0, 5) + """
                pair(0, 1) = 1
                pair(0, 2) = throws.IllegalStateException
                pair(1, 2) = throws.IllegalStateException
                pair(2, 0) = throws.IllegalStateException
                pair(2, 1) = throws.IllegalStateException
                pair(0, 1) = throws.IllegalStateException
                pair(1, 0) = throws.IllegalStateException
                pair(3, 2) = 2
                pair(0, 2) = throws.IllegalStateException
                unpair(1) = 0
                pair(0, 2) = throws.IllegalStateException
                unpair(2) = 3
                pair(0, 2) = 1
                """);
    }

    private static void unpair() {
        Sentence.holds(11, "Ends a partnership.", Lines.dancers(4, 0, 5) + """
                pair(0, 1) = 1
                pair(2, 3) = 2
                unpair(0) = 1
                partner(0) = throws.NoSuchElementException
                partner(1) = throws.NoSuchElementException
                partner(2) = 3
                partner(3) = 2
                pair(1, 0) = 2
                """);
        for (String words : new String[] {"one of the partners", "Returns the other one."}) {
            Sentence.holds(11, words, Lines.dancers(8, 0, 5)
                    + "pair(0, 7) = 1\nunpair(0) = 7\npair(0, 7) = 1\nunpair(7) = 0\npair(7, 0) = 1\n"
                    + "unpair(0) = 7\npair(7, 0) = 1\nunpair(7) = 0\n");
        }
        Sentence.holds(11, ABSENT, "unpair(0) = throws.NoSuchElementException\n" + Lines.dancers(2, 0, 5)
                + "pair(0, 1) = 1\n" + Lines.noDancers("unpair(N)") + """
                unpair(2) = throws.NoSuchElementException
                removeDancer(0) = 1
                unpair(0) = throws.NoSuchElementException
                """);
        Sentence.holds(11, "Throws `IllegalStateException` if the dancer has no partner",
                Lines.dancers(4, 0, 5) + """
                unpair(0) = throws.IllegalStateException
                unpair(3) = throws.IllegalStateException
                pair(0, 1) = 1
                unpair(2) = throws.IllegalStateException
                unpair(0) = 1
                unpair(0) = throws.IllegalStateException
                unpair(1) = throws.IllegalStateException
                pair(2, 3) = 1
                removeDancer(2) = 3
                unpair(3) = throws.IllegalStateException
                """);
    }

    private static void renewNails() {
        StringBuilder renewed = new StringBuilder();
        for (int nails = 0; nails <= 20; nails++) {
            renewed.append("addDancer(0, 0, ").append(nails).append(") = ").append(nails)
                    .append("\nrenewNails(").append(nails).append(") = ").append(nails)
                    .append("\nnails(").append(nails).append(") = 20\nremoveDancer(").append(nails)
                    .append(") = 0\n");
        }
        Sentence.holds(12, "Gives a dancer as many nails as are missing to 20.", renewed
                + "lostNails() = 0\nlostNailsByParts() = 0\n");
        Sentence.holds(12, "Returns the number of nails before.", """
                addDancer(0, 0, 0) = 0
                addDancer(1, 1, 20) = 1
                addDancer(2, 2, 19) = 2
                renewNails(0) = 0
                renewNails(1) = 20
                renewNails(2) = 19
                renewNails(0) = 20
                walk(0, 0, 5) = 15
                renewNails(0) = 15
                nails(1) = 20
                """);
        Sentence.holds(12, ABSENT, "renewNails(0) = throws.NoSuchElementException\n" + Lines.dancers(2, 0, 5)
                + Lines.noDancers("renewNails(N)") + """
                renewNails(2) = throws.NoSuchElementException
                removeDancer(0) = 1
                renewNails(0) = throws.NoSuchElementException
                nails(1) = 5
                """);
    }

    private static void dancersAndIsPresent() {
        StringBuilder counted = new StringBuilder("dancers() = 0\n");
        for (int k = 0; k < 8; k++) {
            counted.append("addDancer(").append(k).append(", 3, 1) = ").append(k).append("\ndancers() = ")
                    .append(k + 1).append('\n');
        }
        Sentence.holds(13, "Returns the number of dancers.", counted
                + "addDancer(0, 4, 1) = throws.IllegalStateException\ndancers() = 8\nremoveDancer(7) = 7\n"
                + "dancers() = 7\nundo() = 7\ndancers() = 8\n");
        Sentence.holds(13, "Returns the number of dancers.", Lines.dancers(2, 0, 1)
                + "addExit(0, 0) = 0\naddExit(1, 0) = 1\ndancers() = 2\nleaveAll() = 0\ndancers() = 0\n");
        for (String words : new String[] {"Returns whether there is a dancer with a number.",
            "Returns true if there is such a dancer."}) {
            Sentence.holds(14, words, Lines.each("isPresent(N)", "false", -1, 0, 1, Lines.LEAST, Lines.MOST)
                    + Lines.dancers(8, 0, 1) + Lines.each("isPresent(N)", "true", 0, 1, 2, 3, 4, 5, 6, 7)
                    + Lines.each("isPresent(N)", "false", -1, 8, 9, 64, Lines.LEAST, Lines.MOST)
                    + "removeDancer(0) = 7\nremoveDancer(7) = 6\nremoveDancer(4) = 5\naddDancer(0, 0, 1) = 8\n"
                    + Lines.each("isPresent(N)", "false", 0, 4, 7, 9)
                    + Lines.each("isPresent(N)", "true", 1, 2, 3, 5, 6, 8));
        }
    }

    private static void columnRowAndNails() {
        String corners = """
                addDancer(0, 7, 0) = 0
                addDancer(7, 0, 20) = 1
                addDancer(6, 1, 1) = 2
                """;
        Sentence.holds(15, "Returns the column of a dancer.", corners + "column(0) = 0\ncolumn(1) = 7\n");
        Sentence.holds(15, "Returns the column.", corners + "removeDancer(0) = 2\ncolumn(1) = 7\n"
                + "column(2) = 6\nwalk(2, 5, 1) = 0\ncolumn(2) = 5\n");
        Sentence.holds(16, "Returns the row of a dancer.", corners + "row(0) = 7\nrow(1) = 0\n");
        Sentence.holds(16, "Returns the row.", corners + "removeDancer(0) = 2\nrow(1) = 0\nrow(2) = 1\n"
                + "walk(2, 6, 2) = 0\nrow(2) = 2\n");
        Sentence.holds(17, "Returns the number of nails of a dancer.", corners + "nails(0) = 0\nnails(1) = 20\n");
        Sentence.holds(17, "Returns the number of nails.", corners + "removeDancer(0) = 2\nnails(1) = 20\n"
                + "nails(2) = 1\nwalk(2, 6, 2) = 0\nnails(2) = 0\n");
        for (int promise = 15; promise <= 17; promise++) {
            String call = promise == 15 ? "column(N)" : promise == 16 ? "row(N)" : "nails(N)";
            Sentence.holds(promise, ABSENT, Lines.noDancers(call)
                    + Lines.each(call, "throws.NoSuchElementException", 0) + corners + Lines.noDancers(call)
                    + Lines.each(call, "throws.NoSuchElementException", 3)
                    + "removeDancer(1) = 2\n" + Lines.each(call, "throws.NoSuchElementException", 1));
        }
    }

    private static void partner() {
        for (String words : new String[] {"Returns the partner of a dancer.", "Returns the partner."}) {
            Sentence.holds(18, words, Lines.dancers(8, 0, 5) + """
                    pair(7, 0) = 1
                    pair(3, 4) = 2
                    removeDancer(1) = 7
                    partner(0) = 7
                    partner(7) = 0
                    partner(3) = 4
                    partner(4) = 3
                    """);
        }
        String none = "Throws `NoSuchElementException` if there is no such dancer, or the dancer has no partner";
        Sentence.holds(18, none, "partner(0) = throws.NoSuchElementException\n" + Lines.dancers(3, 0, 5)
                + Lines.noDancers("partner(N)") + """
                partner(0) = throws.NoSuchElementException
                pair(0, 1) = 1
                partner(2) = throws.NoSuchElementException
                partner(3) = throws.NoSuchElementException
                unpair(1) = 0
                partner(0) = throws.NoSuchElementException
                partner(1) = throws.NoSuchElementException
                pair(1, 2) = 1
                removeDancer(1) = 2
                partner(1) = throws.NoSuchElementException
                partner(2) = throws.NoSuchElementException
                """);
        // Who stands in the slot of one who left with the partner has no partner.
        Sentence.holds(18, none, Lines.dancers(2, 0, 5) + """
                pair(0, 1) = 1
                addExit(0, 0) = 0
                addExit(1, 0) = 1
                leaveAll() = 0
                addDancer(0, 0, 5) = 2
                addDancer(1, 0, 5) = 3
                partner(2) = throws.NoSuchElementException
                partner(3) = throws.NoSuchElementException
                pair(2, 3) = 1
                """);
    }

    private static void dancerByNails() {
        String sorted = "sorted by their nails in ascending order, then by their numbers in ascending order";
        Sentence.holds(19, sorted, """
                addDancer(0, 0, 20) = 0
                addDancer(1, 0, 0) = 1
                addDancer(2, 0, 19) = 2
                addDancer(3, 0, 20) = 3
                addDancer(4, 0, 1) = 4
                addDancer(5, 0, 0) = 5
                addDancer(6, 0, 10) = 6
                addDancer(7, 0, 19) = 7
                dancerByNails(0) = 1
                dancerByNails(1) = 5
                dancerByNails(2) = 4
                dancerByNails(3) = 6
                dancerByNails(4) = 2
                dancerByNails(5) = 7
                dancerByNails(6) = 0
                dancerByNails(7) = 3
                renewNails(1) = 0
                dancerByNails(0) = 5
                dancerByNails(5) = 0
                dancerByNails(6) = 1
                dancerByNails(7) = 3
                """);
        Sentence.holds(19, "Returns the dancer.", Lines.dancers(8, 0, 7) + "removeDancer(0) = 7\n"
                + "addDancer(0, 0, 7) = 8\ndancerByNails(0) = 1\ndancerByNails(6) = 7\ndancerByNails(7) = 8\n");
        Sentence.holds(19, "the rank, counted from 0", "addDancer(0, 0, 7) = 0\ndancerByNails(0) = 0\n"
                + "dancerByNails(1) = throws.NoSuchElementException\n");
        String none = "Throws `NoSuchElementException` if there is no such rank";
        Sentence.holds(19, none, "dancerByNails(0) = throws.NoSuchElementException\n"
                + Lines.noDancers("dancerByNails(N)"));
        Sentence.holds(19, none, Lines.dancers(8, 0, 5) + "dancerByNails(7) = 7\n"
                + "dancerByNails(8) = throws.NoSuchElementException\n" + Lines.noDancers("dancerByNails(N)")
                + "removeDancer(0) = 7\ndancerByNails(6) = 7\ndancerByNails(7) = throws.NoSuchElementException\n");
    }

    private static void numbers() {
        String numbers = "the numbers are consecutive, begin with 0, and are not used again";
        StringBuilder many = new StringBuilder();
        for (int k = 0; k < 40; k++) {
            many.append("addDancer(3, 3, 1) = ").append(k).append("\nremoveDancer(").append(k)
                    .append(") = 0\n");
        }
        Sentence.holds(Sentence.TERMS, numbers, many.toString());
        Sentence.holds(Sentence.TERMS, numbers, """
                addDancer(0, 0, 21) = throws.IllegalArgumentException
                addDancer(8, 0, 1) = throws.IndexOutOfBoundsException
                addDancer(0, 0, 1) = 0
                addDancer(0, 0, 1) = throws.IllegalStateException
                addDancer(1, 0, 1) = 1
                addExit(0, 0) = 0
                addExit(1, 0) = 1
                leaveAll() = 0
                addDancer(0, 0, 1) = 2
                type "dancer 10*1;dancer 20*1"
                run() = 2
                isPresent(3) = true
                isPresent(4) = true
                isPresent(5) = false
                addDancer(3, 0, 1) = 5
                """);
        // The state that is undone or restored is everything, the numbers that were given too.
        Sentence.holds(Sentence.TERMS, "The state that is undone, saved and restored consists of everything", """
                addDancer(0, 0, 1) = 0
                save() = 1
                addDancer(1, 0, 1) = 1
                undo() = 1
                addDancer(1, 0, 1) = 1
                addDancer(2, 0, 1) = 2
                type "dancer 30*1;leave"
                run() = throws.UnsupportedOperationException
                addDancer(3, 0, 1) = 3
                restore() = 1
                addDancer(1, 0, 1) = 1
                """);
    }

    private static void nailsAndPartnersInTheTerms() {
        String range = "A dancer has from 0 to 20 nails.";
        Sentence.holds(Sentence.TERMS, range, """
                addDancer(0, 0, 20) = 0
                renewNails(0) = 20
                nails(0) = 20
                walk(0, 7, 7) = 6
                walk(0, 7, 1) = 0
                walk(0, 7, 0) = throws.IllegalStateException
                nails(0) = 0
                renewNails(0) = 0
                renewNails(0) = 20
                nails(0) = 20
                """);
        Sentence.holds(Sentence.TERMS, range, """
                type "dancer 00*20;dancer 10*0;dancer 20*21"
                run() = throws.UnsupportedOperationException
                failedCommand() = 2
                type "dancer 00*20;dancer 10*0;dancer 20*00"
                run() = 3
                nails(0) = 20
                nails(1) = 0
                nails(2) = 0
                """);
        Sentence.holds(Sentence.TERMS, "Two dancers can be partners; a dancer has at most one partner.",
                Lines.dancers(3, 0, 5) + """
                pair(0, 1) = 1
                pair(1, 2) = throws.IllegalStateException
                pair(2, 0) = throws.IllegalStateException
                partner(0) = 1
                partner(1) = 0
                partner(2) = throws.NoSuchElementException
                """);
    }

    private static void orderOfExceptions() {
        String order = "the exception that is listed first is thrown";
        // addDancer: no such cell, then the nails, then the cell that is not free and the 8 dancers.
        Sentence.holds(Sentence.TERMS, order, Lines.noCells("addDancer(X, Y, 21)"));
        Sentence.holds(Sentence.TERMS, order, Lines.dancers(8, 0, 5) + Lines.noCells("addDancer(X, Y, 5)")
                + Lines.noCells("addDancer(X, Y, -1)"));
        Sentence.holds(Sentence.TERMS, order, "addProp(1, 1) = 1\naddDancer(2, 2, 2) = 0\n"
                + Lines.each("addDancer(1, 1, N)", "throws.IllegalArgumentException", -1, 21)
                + Lines.each("addDancer(2, 2, N)", "throws.IllegalArgumentException", -1, 21));
        Sentence.holds(Sentence.TERMS, order, Lines.dancers(8, 0, 5)
                + Lines.each("addDancer(7, 7, N)", "throws.IllegalArgumentException", -1, 21));
        // pair: no such dancer, then the same one, then the partner.
        Sentence.holds(Sentence.TERMS, order, Lines.noDancers("pair(N, N)") + Lines.dancers(3, 0, 5)
                + Lines.noDancers("pair(N, N)") + """
                pair(0, 1) = 1
                pair(0, 3) = throws.NoSuchElementException
                pair(3, 0) = throws.NoSuchElementException
                pair(0, 0) = throws.IllegalArgumentException
                pair(1, 1) = throws.IllegalArgumentException
                removeDancer(2) = 2
                pair(2, 2) = throws.NoSuchElementException
                pair(2, 1) = throws.NoSuchElementException
                pair(1, 2) = throws.NoSuchElementException
                """);
        // unpair: one who is not there has no partner either.
        Sentence.holds(Sentence.TERMS, order, Lines.dancers(2, 0, 5)
                + "removeDancer(1) = 1\nunpair(1) = throws.NoSuchElementException\n"
                + "unpair(0) = throws.IllegalStateException\n" + Lines.noDancers("unpair(N)"));
    }
}
