/** The sentences about formations, lost nails and the means: promises 36 to 44. */
final class FormationBounds {
    private FormationBounds() {
    }

    static void test() {
        mirrored();
        lostNails();
        meansOfNails();
        pairedShares();
        withoutDancers();
        isConsistent();
    }

    private static void mirrored() {
        String[] words = {"by looking for a dancer at each mirrored cell",
            "Returns the same, by comparing the sets of columns of each row with the reversed sets."};
        for (int promise = 36; promise <= 37; promise++) {
            String call = promise == 36 ? "isMirrored()" : "isMirroredByRows()";
            String way = words[promise - 36];
            // Each column of each row with its mirrored one, and alone.
            for (int cell = 0; cell < 64; cell++) {
                int[] own = {cell % 8, cell / 8};
                int[] mirrored = {7 - own[0], own[1]};
                int[] above = {7 - own[0], (own[1] + 1) % 8};
                Sentence.holdsForEach(promise, way, Lines.at(own, "addDancer(X, Y, 0) = 0") + "IT = false\n"
                        + Lines.at(above, "addDancer(X, Y, 0) = 1") + "IT = false\nremoveDancer(1) = 1\n"
                        + Lines.at(mirrored, "addDancer(X, Y, 20) = 2") + "IT = true\n"
                        + "removeDancer(0) = 1\nIT = false\n", call);
            }
            Sentence.holdsForEach(promise, way, Lines.dancers(7, 7, 0) + "IT = false\naddDancer(7, 7, 0) = 7\n"
                    + "IT = true\nremoveDancer(3) = 7\nIT = false\nremoveDancer(4) = 6\nIT = true\n", call);
            // A dancer between the two columns of the middle is not there: 3 and 4 mirror each other.
            Sentence.holdsForEach(Sentence.TERMS, "A formation is mirrored if for every dancer at the column x", """
                    addDancer(3, 0, 0) = 0
                    addDancer(4, 7, 0) = 1
                    IT = false
                    addDancer(4, 0, 0) = 2
                    IT = false
                    addDancer(3, 7, 0) = 3
                    IT = true
                    walk(0, 3, 0) = 0
                    IT = true
                    renewNails(0) = 0
                    walk(0, 3, 1) = 19
                    IT = false
                    pair(0, 2) = 1
                    addProp(0, 0) = 1
                    addExit(0, 1) = 0
                    renewNails(2) = 0
                    walk(2, 4, 1) = 19
                    IT = true
                    """, call);
            String empty = "Returns true if it is mirrored, also without dancers.";
            Sentence.holdsForEach(promise, empty, "IT = true\naddProp(0, 0) = 1\naddExit(1, 1) = 0\nIT = true\n"
                    + "addDancer(1, 1, 0) = 0\nIT = false\nleaveAll() = 0\nIT = true\n", call);
            Sentence.holdsForEach(promise, empty, """
                    addDancer(0, 5, 0) = 0
                    addDancer(7, 5, 0) = 1
                    IT = true
                    removeDancer(0) = 1
                    IT = false
                    removeDancer(1) = 0
                    IT = true
                    """, call);
        }
    }

    private static void lostNails() {
        String inAll = """
                IT = 0
                addDancer(0, 0, 20) = 0
                addDancer(7, 7, 5) = 1
                IT = 0
                walk(0, 0, 0) = 20
                IT = 0
                walk(0, 0, 3) = 17
                IT = 3
                renewNails(0) = 17
                IT = 3
                addMove(0, 'D') = 1
                addMove(0, 'S') = 2
                perform(0, 0) = 1
                IT = 4
                pair(1, 0) = 1
                perform(0, 1) = 2
                IT = 6
                walk(1, 0, 7) = throws.IllegalStateException
                perform(0, 0) = 2
                perform(0, 0) = throws.UnsupportedOperationException
                IT = 8
                removeDancer(1) = 1
                IT = 8
                addExit(7, 7) = 0
                leaveAll() = 14
                IT = 8
                addDancer(0, 0, 1) = 2
                IT = 8
                undo() = 7
                undo() = 6
                undo() = 5
                undo() = 4
                undo() = 3
                IT = 6
                renewNails(1) = 4
                IT = 6
                """;
        // The twenty nails of eight dancers, lost once and again after renewing.
        StringBuilder all = new StringBuilder(Lines.dancers(8, 0, 12) + Lines.moves(0, "UDUDUDUDUDUD"));
        for (int k = 0; k < 8; k++) {
            all.append("perform(0, ").append(k).append(") = 12\nIT = ").append(24 * k + 12)
                    .append("\nrenewNails(").append(k).append(") = 0\nperform(0, ").append(k)
                    .append(") = 12\nIT = ").append(24 * k + 24).append('\n');
        }
        for (String words : new String[] {"counted as they were lost", "Returns the number of nails."}) {
            Sentence.holdsForEach(38, words, inAll, "lostNails()");
            Sentence.holdsForEach(38, words, all.toString(), "lostNails()");
        }
        for (String words : new String[] {"minus those of dancers who have gone away", "Returns the number of nails."}) {
            Sentence.holdsForEach(39, words, inAll, "lostNailsByParts()");
            Sentence.holdsForEach(39, words, all.toString(), "lostNailsByParts()");
        }
    }

    /** All sums of nails for all numbers of dancers. */
    private static void meansOfNails() {
        for (int dancers = 1; dancers <= 8; dancers++) {
            for (int sum = 0; sum <= 20 * dancers; sum++) {
                StringBuilder lines = new StringBuilder();
                int left = sum;
                for (int k = 0; k < dancers; k++) {
                    int nails = Math.min(20, left);
                    left -= nails;
                    lines.append("addDancer(").append(k).append(", 2, ").append(nails).append(") = ").append(k)
                            .append('\n');
                }
                double mean = (double) sum / (double) dancers;
                String words = sum % 2 == 0 ? "the sum divided by the number of dancers, both converted to double"
                        : "Returns the mean.";
                Sentence.holds(40, words, lines + "meanNails() = " + mean + "\n");
                words = sum % 2 == 0 ? "as by Double.doubleToLongBits" : "Returns the bits.";
                Sentence.holds(41, words, lines + "meanNailsBits() = " + Double.doubleToLongBits(mean) + "\n");
            }
        }
    }

    private static void pairedShares() {
        for (int dancers = 1; dancers <= 8; dancers++) {
            StringBuilder lines = new StringBuilder(Lines.dancers(dancers, 2, 0));
            for (int pairs = 0; 2 * pairs <= dancers; pairs++) {
                if (pairs > 0) {
                    lines.append("pair(").append(2 * pairs - 1).append(", ").append(2 * pairs - 2).append(") = ")
                            .append(pairs).append('\n');
                }
                float share = (float) (2 * pairs) / (float) dancers;
                for (String words : new String[] {"both converted to float", "Returns the quotient."}) {
                    Sentence.holds(42, words, lines + "pairedShare() = " + share + "\n");
                }
                for (String words : new String[] {"as by Float.floatToIntBits", "Returns the bits."}) {
                    Sentence.holds(43, words, lines + "pairedShareBits() = " + Float.floatToIntBits(share) + "\n");
                }
            }
        }
        Sentence.holds(42, "both converted to float", """
                addDancer(0, 0, 0) = 0
                addDancer(1, 0, 0) = 1
                addDancer(2, 0, 0) = 2
                pair(0, 2) = 1
                pairedShare() = 0.6666667
                removeDancer(1) = 2
                pairedShare() = 1.0
                removeDancer(2) = 1
                pairedShare() = 0.0
                """);
    }

    private static void withoutDancers() {
        String[] calls = {"meanNails()", "meanNailsBits()", "pairedShare()", "pairedShareBits()"};
        for (int k = 0; k < 4; k++) {
            Sentence.holdsForEach(40 + k, "Throws `ArithmeticException` if there are no dancers", """
                    IT = throws.ArithmeticException
                    addExit(0, 0) = 0
                    addDancer(0, 0, 0) = 0
                    IT
                    removeDancer(0) = 0
                    IT = throws.ArithmeticException
                    addDancer(0, 0, 20) = 1
                    leaveAll() = 0
                    IT = throws.ArithmeticException
                    undo() = 4
                    IT
                    """, calls[k]);
        }
        // The smallest values are plain zeros.
        Sentence.holds(41, "Returns the bits.", "addDancer(0, 0, 0) = 0\nmeanNailsBits() = 0\n"
                + "renewNails(0) = 0\nmeanNailsBits() = 4626322717216342016\n");
        Sentence.holds(43, "Returns the bits.", "addDancer(0, 0, 0) = 0\npairedShareBits() = 0\n"
                + "addDancer(0, 1, 0) = 1\npair(0, 1) = 1\npairedShareBits() = 1065353216\n");
    }

    private static void isConsistent() {
        String hold = "Returns true if the invariants hold.";
        Sentence.holds(44, hold, "isConsistent() = true\n" + Lines.props(20) + "isConsistent() = true\n"
                + Lines.exits(6, 7) + "isConsistent() = true\n" + Lines.dancers(8, 7, 20) + """
                isConsistent() = true
                pair(0, 7) = 1
                pair(1, 6) = 2
                pair(2, 5) = 3
                pair(3, 4) = 4
                isConsistent() = true
                renewNails(0) = 20
                walk(0, 0, 6) = 19
                isConsistent() = true
                removeDancer(3) = 7
                isConsistent() = true
                """ + Lines.moves(0, "UDLRSUDLRSUD") + Lines.moves(5, "SSSSSSSSSSSS") + """
                isConsistent() = true
                leaveAll() = throws.UnsupportedOperationException
                isConsistent() = true
                removeDancer(4) = 6
                leaveAll() = 7
                isConsistent() = true
                undo() = 7
                isConsistent() = true
                removeDancer(0) = 5
                addDancer(0, 7, 0) = 8
                isConsistent() = true
                """);
        Sentence.holds(44, hold, """
                type "dancer 00*20;exit 00;figure 0:U;perform 0 0;leave"
                run() = 5
                isConsistent() = true
                save() = 0
                undo() = 0
                isConsistent() = true
                restore() = 0
                isConsistent() = true
                type "dancer 00*20;leave;leave"
                run() = throws.UnsupportedOperationException
                isConsistent() = true
                """);
    }
}
