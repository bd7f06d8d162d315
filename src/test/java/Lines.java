/** Lines of scripts that come again: full stages, and calls at every bound. */
final class Lines {
    static final int LEAST = Integer.MIN_VALUE;
    static final int MOST = Integer.MAX_VALUE;

    /** The calls that take a cell just as well as any other one, at the bounds on either side. */
    static final int[][] CORNERS = {{0, 0}, {7, 0}, {0, 7}, {7, 7}};

    /** One step outside on each side, where a row runs on in the next one, and far outside. */
    private static final int[][] NO_CELLS = {
        {-1, 0}, {8, 0}, {0, -1}, {0, 8}, {-1, 7}, {8, 7}, {7, -1}, {7, 8},
        {-1, 3}, {8, 3}, {3, -1}, {3, 8}, {8, -1}, {-8, 1}, {-1, 1}, {-1, 8}, {-1, -1}, {8, 8},
        {63, 0}, {64, 0}, {0, 64}, {256, 0}, {0, 256}, {0, 1 << 29}, {1 << 29, 0},
        {LEAST, 0}, {0, LEAST}, {MOST, 0}, {0, MOST}, {LEAST, LEAST}, {MOST, MOST}};

    private Lines() {
    }

    /** The call at a cell, with X and Y replaced. */
    static String at(int[] cell, String call) {
        return call.replace("X", String.valueOf(cell[0])).replace("Y", String.valueOf(cell[1])) + "\n";
    }

    /** The call with X and Y replaced by cells that are not there. */
    static String noCells(String call) {
        StringBuilder lines = new StringBuilder();
        for (int[] cell : NO_CELLS) {
            lines.append(at(cell, call + " = throws.IndexOutOfBoundsException"));
        }
        return lines.toString();
    }

    /** The call with N replaced by each of the numbers, each with the same answer. */
    static String each(String call, String due, int... numbers) {
        StringBuilder lines = new StringBuilder();
        for (int number : numbers) {
            lines.append(call.replaceAll("\\bN\\b", String.valueOf(number))).append(" = ").append(due).append('\n');
        }
        return lines.toString();
    }

    static String noFigures(String call) {
        return each(call, "throws.IndexOutOfBoundsException", -1, 6, 7, 12, LEAST, MOST);
    }

    /** Neither of them is a dancer as long as fewer than twenty have come. */
    static String noDancers(String call) {
        return each(call, "throws.NoSuchElementException", -1, 20, 64, LEAST, MOST);
    }

    /** The first props of those that fill the rows 0 and 1 and half of the row 2. */
    static String props(int count) {
        StringBuilder lines = new StringBuilder();
        for (int k = 0; k < count; k++) {
            lines.append("addProp(").append(k % 8).append(", ").append(k / 8).append(") = ")
                    .append(k + 1).append('\n');
        }
        return lines.toString();
    }

    /** Dancers with the numbers 0 and so on, side by side in a row. */
    static String dancers(int count, int y, int nails) {
        StringBuilder lines = new StringBuilder();
        for (int k = 0; k < count; k++) {
            lines.append("addDancer(").append(k).append(", ").append(y).append(", ").append(nails)
                    .append(") = ").append(k).append('\n');
        }
        return lines.toString();
    }

    /** Exits side by side in a row. */
    static String exits(int count, int y) {
        StringBuilder lines = new StringBuilder();
        for (int k = 0; k < count; k++) {
            lines.append("addExit(").append(k).append(", ").append(y).append(") = ").append(k)
                    .append('\n');
        }
        return lines.toString();
    }

    /** A figure that was empty, move by move. */
    static String moves(int figure, String moves) {
        StringBuilder lines = new StringBuilder();
        for (int k = 0; k < moves.length(); k++) {
            lines.append("addMove(").append(figure).append(", '").append(moves.charAt(k)).append("') = ")
                    .append(k + 1).append('\n');
        }
        return lines.toString();
    }

    /** Each line as often as said. */
    static String times(int count, String line) {
        return (line + "\n").repeat(count);
    }

    /**
     * Twenty props that leave a single way from the cell 0, 0 to the cell 6, 0: up, over, down, over, up
     * to the row 6, over and down, 7 + 2 + 7 + 2 + 6 + 2 + 6 = 32 steps in all.
     */
    static String snake() {
        StringBuilder lines = new StringBuilder();
        int props = 0;
        for (int k = 0; k < 20; k++) {
            int x = k < 7 ? 1 : k < 14 ? 3 : 5;
            int y = k < 7 ? k : k < 14 ? k - 6 : k - 14;
            props++;
            lines.append("addProp(").append(x).append(", ").append(y).append(") = ").append(props)
                    .append('\n');
        }
        return lines.toString();
    }
}
