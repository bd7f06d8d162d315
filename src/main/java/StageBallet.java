import java.util.NoSuchElementException;

/**
 * A ballet on a stage of cells.
 *
 * <p>A cell is held as one number, 8 times its row plus its column, and a set of cells as the bits of
 * a long. Dancers stand in slots 0, 1 and so on, in the order of their numbers.
 *
 * <p>Every call first asks a function named ..Fault whether it can be done, so that a program can ask
 * the same without an exception; only then it changes the state.
 */
public final class StageBallet {
    private static final int SIDE = 8;
    private static final int CELLS = 64;
    private static final int MOST_PROPS = 20;
    private static final int MOST_DANCERS = 8;
    private static final int MOST_NAILS = 20;
    private static final int FIGURES = 6;
    private static final int MOST_MOVES = 12;
    private static final int MOST_EXITS = 6;
    private static final int MOST_UNDOS = 8;
    private static final int MOST_TYPED = 60;

    /** No index, slot, cell, number or position. */
    private static final int NONE = -1;
    /** More than the cost of any exit plan, which is at most 6 times 63. */
    private static final int FAR = 1000;

    private static final int FINE = 0;
    private static final int NO_INDEX = 1;
    private static final int BAD_ARGUMENT = 2;
    private static final int BAD_STATE = 3;
    private static final int NO_ELEMENT = 4;
    private static final int UNSUPPORTED = 5;

    /** The moves are held as the indices of these letters; the first four also lead to the neighbours. */
    private static final char[] MOVE_LETTERS = {'U', 'D', 'L', 'R', 'S'};
    private static final int DIRECTIONS = 4;
    private static final int UP = 0;
    private static final int DOWN = 1;
    private static final int LEFT = 2;
    private static final int RIGHT = 3;
    private static final int STAY = 4;

    private static final int PROP = 0;
    private static final int DANCER = 1;
    private static final int PAIR = 2;
    private static final int FIGURE = 3;
    private static final int PERFORM = 4;
    private static final int WALK = 5;
    private static final int EXIT = 6;
    private static final int NAILS = 7;
    private static final int LEAVE = 8;
    private static final int COMMAND_KINDS = 9;

    private final State now = new State();
    private final State saved = new State();
    /** The state before the program that runs. */
    private final State before = new State();
    private final History history = new History();
    private final Areas areaSearch = new Areas();
    private final Ways ways = new Ways();
    private final Rehearsal rehearsal = new Rehearsal();
    private final ExitPlan plan = new ExitPlan();
    private final Program program = new Program();
    private final Line line = new Line();
    private boolean hasSaved;
    private int lastErrorPosition;
    private int lastFailedCommand;

    public StageBallet() {
        hasSaved = false;
        lastErrorPosition = NONE;
        lastFailedCommand = NONE;
    }

    // ---- stage

    public int addProp(int x, int y) throws IndexOutOfBoundsException, IllegalStateException {
        throwFor(addPropFault(x, y));
        remember();
        now.placeProp(cellAt(x, y));
        return now.countProps();
    }

    public int removeProp(int x, int y) throws IndexOutOfBoundsException, IllegalStateException {
        throwFor(removePropFault(x, y));
        remember();
        now.takeProp(cellAt(x, y));
        return now.countProps();
    }

    public boolean isFree(int x, int y) throws IndexOutOfBoundsException {
        throwFor(cellFault(x, y));
        return now.isOpen(cellAt(x, y));
    }

    public int areas() {
        return areaSearch.countByFilling(now.props);
    }

    public int areasByUnions() {
        return areaSearch.countByUniting(now.props);
    }

    public int areaSize(int x, int y) throws IndexOutOfBoundsException {
        throwFor(cellFault(x, y));
        return Long.bitCount(areaSearch.fillFrom(cellAt(x, y), now.props));
    }

    // ---- dancers

    public int addDancer(int x, int y, int nails)
            throws IndexOutOfBoundsException, IllegalArgumentException, IllegalStateException {
        throwFor(addDancerFault(x, y, nails));
        remember();
        return now.bringDancer(cellAt(x, y), nails);
    }

    public int removeDancer(int dancer) throws NoSuchElementException {
        throwFor(presenceFault(dancer));
        remember();
        now.dismissDancer(now.slotOf(dancer));
        return now.dancerCount;
    }

    public int pair(int first, int second)
            throws NoSuchElementException, IllegalArgumentException, IllegalStateException {
        throwFor(pairFault(first, second));
        remember();
        now.bind(first, second);
        return now.countPaired() / 2;
    }

    public int unpair(int dancer) throws NoSuchElementException, IllegalStateException {
        throwFor(unpairFault(dancer));
        remember();
        int other = now.partnerOf(dancer);
        now.separate(now.slotOf(dancer));
        return other;
    }

    public int renewNails(int dancer) throws NoSuchElementException {
        throwFor(presenceFault(dancer));
        remember();
        return now.fillNails(now.slotOf(dancer));
    }

    public int dancers() {
        return now.dancerCount;
    }

    public boolean isPresent(int dancer) {
        return now.slotOf(dancer) != NONE;
    }

    public int column(int dancer) throws NoSuchElementException {
        throwFor(presenceFault(dancer));
        return columnOf(at(now.cell, now.slotOf(dancer)));
    }

    public int row(int dancer) throws NoSuchElementException {
        throwFor(presenceFault(dancer));
        return rowOf(at(now.cell, now.slotOf(dancer)));
    }

    public int nails(int dancer) throws NoSuchElementException {
        throwFor(presenceFault(dancer));
        return at(now.nails, now.slotOf(dancer));
    }

    public int partner(int dancer) throws NoSuchElementException {
        throwFor(presenceFault(dancer));
        int other = now.partnerOf(dancer);
        if (other == NONE) {
            throw new NoSuchElementException();
        }
        return other;
    }

    public int dancerByNails(int rank) throws NoSuchElementException {
        int dancer = now.numberAtRank(rank);
        if (dancer == NONE) {
            throw new NoSuchElementException();
        }
        return dancer;
    }

    // ---- figures

    public int addMove(int figure, char move)
            throws IndexOutOfBoundsException, IllegalArgumentException, IllegalStateException {
        int index = moveIndex(move);
        throwFor(addMoveFault(figure, index));
        remember();
        now.appendMove(figure, index);
        return now.movesIn(figure);
    }

    public int clearFigure(int figure) throws IndexOutOfBoundsException {
        throwFor(figureFault(figure));
        remember();
        int removed = now.movesIn(figure);
        now.emptyFigure(figure);
        return removed;
    }

    public int figureLength(int figure) throws IndexOutOfBoundsException {
        throwFor(figureFault(figure));
        return now.movesIn(figure);
    }

    public int perform(int figure, int dancer)
            throws IndexOutOfBoundsException, NoSuchElementException, UnsupportedOperationException {
        throwFor(performFault(figure, dancer));
        remember();
        return performNow(figure, dancer);
    }

    public int blockedBeat(int figure, int dancer)
            throws IndexOutOfBoundsException, NoSuchElementException {
        throwFor(figureFault(figure));
        throwFor(presenceFault(dancer));
        int beat = rehearsal.firstBlocked(now, figure, dancer);
        if (beat == NONE) {
            throw new NoSuchElementException();
        }
        return beat;
    }

    // ---- walking

    public int distance(int dancer, int x, int y)
            throws NoSuchElementException, IndexOutOfBoundsException {
        throwFor(presenceFault(dancer));
        throwFor(cellFault(x, y));
        int steps = walkLength(dancer, x, y);
        if (steps == NONE) {
            throw new NoSuchElementException();
        }
        return steps;
    }

    public int distanceByRounds(int dancer, int x, int y)
            throws NoSuchElementException, IndexOutOfBoundsException {
        throwFor(presenceFault(dancer));
        throwFor(cellFault(x, y));
        int slot = now.slotOf(dancer);
        ways.improveInRounds(at(now.cell, slot), now.props | now.cellsOfOthers(slot));
        int steps = ways.lengthTo(cellAt(x, y));
        if (steps == NONE) {
            throw new NoSuchElementException();
        }
        return steps;
    }

    public int walk(int dancer, int x, int y)
            throws NoSuchElementException, IndexOutOfBoundsException,
            UnsupportedOperationException, IllegalStateException {
        throwFor(walkFault(dancer, x, y));
        remember();
        walkNow(dancer, x, y);
        return at(now.nails, now.slotOf(dancer));
    }

    // ---- exits

    public int addExit(int x, int y) throws IndexOutOfBoundsException, IllegalStateException {
        throwFor(addExitFault(x, y));
        remember();
        now.openExit(cellAt(x, y));
        return now.exitCount - 1;
    }

    public int removeExit(int exit) throws IndexOutOfBoundsException {
        throwFor(exitFault(exit));
        remember();
        now.closeExit(exit);
        return now.exitCount;
    }

    public int exits() {
        return now.exitCount;
    }

    public int exitDistance(int dancer, int exit)
            throws NoSuchElementException, IndexOutOfBoundsException {
        throwFor(presenceFault(dancer));
        throwFor(exitFault(exit));
        ways.searchBreadthFirst(at(now.cell, now.slotOf(dancer)), now.props);
        int steps = ways.lengthTo(at(now.exitCell, exit));
        if (steps == NONE) {
            throw new NoSuchElementException();
        }
        return steps;
    }

    public int exitCost() throws NoSuchElementException {
        int cost = planCost();
        if (cost == NONE) {
            throw new NoSuchElementException();
        }
        return cost;
    }

    public int exitCostByPotentials() throws NoSuchElementException {
        plan.measure(now, ways);
        int cost = plan.costByPotentials();
        if (cost == NONE) {
            throw new NoSuchElementException();
        }
        return cost;
    }

    public int exitOf(int dancer) throws NoSuchElementException {
        throwFor(presenceFault(dancer));
        if (planCost() == NONE) {
            throw new NoSuchElementException();
        }
        return plan.exitForSlot(now.slotOf(dancer));
    }

    public int leaveAll() throws IllegalStateException, UnsupportedOperationException {
        throwFor(leaveFault());
        remember();
        int cost = planCost();
        now.dismissAll();
        return cost;
    }

    // ---- formations and statistics

    public boolean isMirrored() {
        long standing = now.cellsOfOthers(NONE);
        for (int slot = 0; slot < now.dancerCount; slot++) {
            int cell = at(now.cell, slot);
            if (!holds(standing, cellAt(SIDE - 1 - columnOf(cell), rowOf(cell)))) {
                return false;
            }
        }
        return true;
    }

    public boolean isMirroredByRows() {
        long standing = now.cellsOfOthers(NONE);
        for (int y = 0; y < SIDE; y++) {
            int columns = (int) (standing >>> (SIDE * y)) & 0xFF;
            if (columns != reversed(columns)) {
                return false;
            }
        }
        return true;
    }

    public int lostNails() {
        return now.lost;
    }

    public int lostNailsByParts() {
        return now.lostByParts();
    }

    public double meanNails() throws ArithmeticException {
        if (now.dancerCount == 0) {
            throw new ArithmeticException();
        }
        return (double) now.sumOfNails() / (double) now.dancerCount;
    }

    public long meanNailsBits() throws ArithmeticException {
        return doubleBits(meanNails());
    }

    public float pairedShare() throws ArithmeticException {
        if (now.dancerCount == 0) {
            throw new ArithmeticException();
        }
        return (float) now.countPaired() / (float) now.dancerCount;
    }

    public int pairedShareBits() throws ArithmeticException {
        return floatBits(pairedShare());
    }

    public boolean isConsistent() {
        return now.hasSoundStage() && now.hasSoundDancers() && now.hasSoundFigures()
                && now.lost == now.lostByParts();
    }

    // ---- output

    public int writeRow(int y) throws IndexOutOfBoundsException {
        throwFor(cellFault(0, y));
        line.empty();
        for (int x = 0; x < SIDE; x++) {
            line.put(now.signAt(cellAt(x, y)));
        }
        return line.length;
    }

    public int writeFigure(int figure) throws IndexOutOfBoundsException {
        throwFor(figureFault(figure));
        line.empty();
        int moves = now.movesIn(figure);
        int start = 0;
        for (int end = 1; end <= moves; end++) {
            boolean goesOn = end < moves && now.moveAt(figure, end) == now.moveAt(figure, start);
            if (!goesOn) {
                line.putRepeated(end - start, moveLetter(now.moveAt(figure, start)));
                start = end;
            }
        }
        return line.length;
    }

    public char charAt(int index) throws IndexOutOfBoundsException {
        if (index < 0 || index >= line.length || index >= line.letters.length) {
            throw new IndexOutOfBoundsException();
        }
        return line.letters[index];
    }

    // ---- programs

    public int type(char character) throws IllegalStateException {
        if (program.length >= MOST_TYPED) {
            throw new IllegalStateException();
        }
        program.append(character);
        return program.length;
    }

    public int run() throws IllegalArgumentException, UnsupportedOperationException {
        int error = program.parse();
        program.length = 0;
        if (error != NONE) {
            lastErrorPosition = error;
            throw new IllegalArgumentException();
        }
        before.copyFrom(now);
        for (int command = 0; command < program.commands; command++) {
            if (commandFault(command) != FINE) {
                now.copyFrom(before);
                lastFailedCommand = command;
                throw new UnsupportedOperationException();
            }
            execute(command);
        }
        history.push(before);
        return program.commands;
    }

    public int errorPosition() throws NoSuchElementException {
        if (lastErrorPosition == NONE) {
            throw new NoSuchElementException();
        }
        return lastErrorPosition;
    }

    public int failedCommand() throws NoSuchElementException {
        if (lastFailedCommand == NONE) {
            throw new NoSuchElementException();
        }
        return lastFailedCommand;
    }

    // ---- undo and snapshots

    public int undo() throws IllegalStateException {
        if (history.count == 0) {
            throw new IllegalStateException();
        }
        history.popInto(now);
        return history.count;
    }

    public int save() {
        saved.copyFrom(now);
        hasSaved = true;
        return now.dancerCount;
    }

    public int restore() throws IllegalStateException {
        if (!hasSaved) {
            throw new IllegalStateException();
        }
        now.copyFrom(saved);
        history.count = 0;
        return now.dancerCount;
    }

    // ---- what stands in the way of a call

    private static void throwFor(int fault) {
        switch (fault) {
            case NO_INDEX:
                throw new IndexOutOfBoundsException();
            case BAD_ARGUMENT:
                throw new IllegalArgumentException();
            case BAD_STATE:
                throw new IllegalStateException();
            case NO_ELEMENT:
                throw new NoSuchElementException();
            case UNSUPPORTED:
                throw new UnsupportedOperationException();
            default:
                break;
        }
    }

    private static int cellFault(int x, int y) {
        return x >= 0 && x < SIDE && y >= 0 && y < SIDE ? FINE : NO_INDEX;
    }

    private static int figureFault(int figure) {
        return figure >= 0 && figure < FIGURES ? FINE : NO_INDEX;
    }

    private int exitFault(int exit) {
        return exit >= 0 && exit < now.exitCount ? FINE : NO_INDEX;
    }

    private int presenceFault(int dancer) {
        return now.slotOf(dancer) == NONE ? NO_ELEMENT : FINE;
    }

    private int addPropFault(int x, int y) {
        if (cellFault(x, y) != FINE) {
            return NO_INDEX;
        }
        boolean possible = now.isOpen(cellAt(x, y)) && now.countProps() < MOST_PROPS;
        return possible ? FINE : BAD_STATE;
    }

    private int removePropFault(int x, int y) {
        if (cellFault(x, y) != FINE) {
            return NO_INDEX;
        }
        return holds(now.props, cellAt(x, y)) ? FINE : BAD_STATE;
    }

    private int addDancerFault(int x, int y, int nails) {
        if (cellFault(x, y) != FINE) {
            return NO_INDEX;
        }
        if (nails < 0 || nails > MOST_NAILS) {
            return BAD_ARGUMENT;
        }
        boolean possible = now.isOpen(cellAt(x, y)) && now.dancerCount < MOST_DANCERS;
        return possible ? FINE : BAD_STATE;
    }

    private int pairFault(int first, int second) {
        if (presenceFault(first) != FINE || presenceFault(second) != FINE) {
            return NO_ELEMENT;
        }
        if (first == second) {
            return BAD_ARGUMENT;
        }
        boolean bothAlone = now.partnerOf(first) == NONE && now.partnerOf(second) == NONE;
        return bothAlone ? FINE : BAD_STATE;
    }

    private int unpairFault(int dancer) {
        if (presenceFault(dancer) != FINE) {
            return NO_ELEMENT;
        }
        return now.partnerOf(dancer) == NONE ? BAD_STATE : FINE;
    }

    private int addMoveFault(int figure, int move) {
        if (figureFault(figure) != FINE) {
            return NO_INDEX;
        }
        if (move == NONE) {
            return BAD_ARGUMENT;
        }
        return now.movesIn(figure) < MOST_MOVES ? FINE : BAD_STATE;
    }

    /** Clearing the figure comes first, so that only the number of new moves can be too large. */
    private static int rewriteFault(int figure, int moves) {
        if (figureFault(figure) != FINE) {
            return NO_INDEX;
        }
        return moves <= MOST_MOVES ? FINE : BAD_STATE;
    }

    private int performFault(int figure, int dancer) {
        if (figureFault(figure) != FINE) {
            return NO_INDEX;
        }
        if (presenceFault(dancer) != FINE) {
            return NO_ELEMENT;
        }
        return rehearsal.firstBlocked(now, figure, dancer) == NONE ? FINE : UNSUPPORTED;
    }

    private int walkFault(int dancer, int x, int y) {
        if (presenceFault(dancer) != FINE) {
            return NO_ELEMENT;
        }
        if (cellFault(x, y) != FINE) {
            return NO_INDEX;
        }
        int steps = walkLength(dancer, x, y);
        if (steps == NONE) {
            return UNSUPPORTED;
        }
        return at(now.nails, now.slotOf(dancer)) < steps ? BAD_STATE : FINE;
    }

    private int addExitFault(int x, int y) {
        if (cellFault(x, y) != FINE) {
            return NO_INDEX;
        }
        boolean possible = !now.hasExitAt(cellAt(x, y)) && now.exitCount < MOST_EXITS;
        return possible ? FINE : BAD_STATE;
    }

    private int leaveFault() {
        if (now.dancerCount == 0) {
            return BAD_STATE;
        }
        return planCost() == NONE ? UNSUPPORTED : FINE;
    }

    // ---- what calls and commands have in common

    private void remember() {
        history.push(now);
    }

    private int performNow(int figure, int dancer) {
        if (rehearsal.firstBlocked(now, figure, dancer) == NONE) {
            rehearsal.showOn(now);
        }
        return rehearsal.lost;
    }

    private int walkLength(int dancer, int x, int y) {
        int slot = now.slotOf(dancer);
        ways.searchBreadthFirst(at(now.cell, slot), now.props | now.cellsOfOthers(slot));
        return ways.lengthTo(cellAt(x, y));
    }

    private void walkNow(int dancer, int x, int y) {
        int steps = walkLength(dancer, x, y);
        int slot = now.slotOf(dancer);
        set(now.cell, slot, cellAt(x, y));
        set(now.nails, slot, at(now.nails, slot) - steps);
        now.lost += steps;
    }

    private int planCost() {
        plan.measure(now, ways);
        return plan.costByTable();
    }

    private int commandFault(int command) {
        int first = program.argument(command, 0);
        int second = program.argument(command, 1);
        int third = program.argument(command, 2);
        switch (at(program.kinds, command)) {
            case PROP:
                return addPropFault(first, second);
            case DANCER:
                return addDancerFault(first, second, third);
            case PAIR:
                return pairFault(first, second);
            case FIGURE:
                return rewriteFault(first, third - second);
            case PERFORM:
                return performFault(first, second);
            case WALK:
                return walkFault(first, second, third);
            case EXIT:
                return addExitFault(first, second);
            case NAILS:
                return presenceFault(first);
            default:
                return leaveFault();
        }
    }

    /** Executes a command that has no fault. */
    private void execute(int command) {
        int first = program.argument(command, 0);
        int second = program.argument(command, 1);
        int third = program.argument(command, 2);
        switch (at(program.kinds, command)) {
            case PROP:
                now.placeProp(cellAt(first, second));
                break;
            case DANCER:
                now.bringDancer(cellAt(first, second), third);
                break;
            case PAIR:
                now.bind(first, second);
                break;
            case FIGURE:
                rewriteFigure(first, second, third);
                break;
            case PERFORM:
                performNow(first, second);
                break;
            case WALK:
                walkNow(first, second, third);
                break;
            case EXIT:
                now.openExit(cellAt(first, second));
                break;
            case NAILS:
                now.fillNails(now.slotOf(first));
                break;
            default:
                now.dismissAll();
                break;
        }
    }

    private void rewriteFigure(int figure, int from, int to) {
        now.emptyFigure(figure);
        for (int position = from; position < to; position++) {
            now.appendMove(figure, program.moveAt(position));
        }
    }

    // ---- cells, moves, rows of numbers and bits

    private static int cellAt(int x, int y) {
        return SIDE * y + x;
    }

    private static int columnOf(int cell) {
        return cell & (SIDE - 1);
    }

    private static int rowOf(int cell) {
        return cell / SIDE;
    }

    private static boolean holds(long cells, int cell) {
        return (cells >>> cell & 1L) != 0;
    }

    /** Returns the cell to which a move leads, or NONE if it leaves the stage. */
    private static int cellAfter(int cell, int move) {
        int x = cell & (SIDE - 1);
        int y = cell / SIDE;
        switch (move) {
            case UP:
                y++;
                break;
            case DOWN:
                y--;
                break;
            case LEFT:
                x--;
                break;
            case RIGHT:
                x++;
                break;
            default:
                break;
        }
        return x >= 0 && x < SIDE && y >= 0 && y < SIDE ? SIDE * y + x : NONE;
    }

    private static int mirroredMove(int move) {
        if (move == LEFT) {
            return RIGHT;
        }
        return move == RIGHT ? LEFT : move;
    }

    private static int moveIndex(int letter) {
        for (int move = 0; move < MOVE_LETTERS.length; move++) {
            if (MOVE_LETTERS[move] == letter) {
                return move;
            }
        }
        return NONE;
    }

    private static char moveLetter(int move) {
        return move >= 0 && move < MOVE_LETTERS.length ? MOVE_LETTERS[move] : 'S';
    }

    private static int at(int[] row, int index) {
        return index >= 0 && index < row.length ? row[index] : NONE;
    }

    private static void set(int[] row, int index, int value) {
        if (index >= 0 && index < row.length) {
            row[index] = value;
        }
    }

    private static void fill(int[] row, int value) {
        for (int index = 0; index < row.length; index++) {
            row[index] = value;
        }
    }

    private static int reversed(int columns) {
        int result = 0;
        for (int x = 0; x < SIDE; x++) {
            if ((columns >>> x & 1) != 0) {
                result |= 1 << (SIDE - 1 - x);
            }
        }
        return result;
    }

    /** The bits of a mean of nails, which is 0 or from 1/8 to 20; every step here is exact. */
    private static long doubleBits(double value) {
        if (value <= 0.0) {
            return 0L;
        }
        double fraction = value;
        int exponent = 1023;
        for (int step = 0; step < 16 && fraction >= 2.0; step++) {
            fraction = fraction / 2.0;
            exponent++;
        }
        for (int step = 0; step < 16 && fraction < 1.0; step++) {
            fraction = fraction * 2.0;
            exponent--;
        }
        return ((long) exponent << 52) + (long) ((fraction - 1.0) * 4503599627370496.0);
    }

    /** The bits of a share, which is 0 or from 1/8 to 1; every step here is exact. */
    private static int floatBits(float value) {
        if (value <= 0.0f) {
            return 0;
        }
        float fraction = value;
        int exponent = 127;
        for (int step = 0; step < 16 && fraction < 1.0f; step++) {
            fraction = fraction * 2.0f;
            exponent--;
        }
        return (exponent << 23) + (int) ((fraction - 1.0f) * 8388608.0f);
    }

    /** Everything that is undone, saved and restored. */
    private static final class State {
        long props;
        int dancerCount;
        int nextNumber;
        final int[] number = new int[MOST_DANCERS];
        final int[] cell = new int[MOST_DANCERS];
        final int[] nails = new int[MOST_DANCERS];
        /** The number of the partner, not the slot, since slots change when a dancer goes away. */
        final int[] partnerNumber = new int[MOST_DANCERS];
        final int[] figureMoves = new int[FIGURES * MOST_MOVES];
        final int[] figureSize = new int[FIGURES];
        int exitCount;
        final int[] exitCell = new int[MOST_EXITS];
        int lost;
        int brought;
        int given;
        int takenAway;

        void copyFrom(State other) {
            props = other.props;
            dancerCount = other.dancerCount;
            nextNumber = other.nextNumber;
            exitCount = other.exitCount;
            lost = other.lost;
            brought = other.brought;
            given = other.given;
            takenAway = other.takenAway;
            System.arraycopy(other.number, 0, number, 0, MOST_DANCERS);
            System.arraycopy(other.cell, 0, cell, 0, MOST_DANCERS);
            System.arraycopy(other.nails, 0, nails, 0, MOST_DANCERS);
            System.arraycopy(other.partnerNumber, 0, partnerNumber, 0, MOST_DANCERS);
            System.arraycopy(other.figureMoves, 0, figureMoves, 0, FIGURES * MOST_MOVES);
            System.arraycopy(other.figureSize, 0, figureSize, 0, FIGURES);
            System.arraycopy(other.exitCell, 0, exitCell, 0, MOST_EXITS);
        }

        int countProps() {
            return Long.bitCount(props);
        }

        void placeProp(int where) {
            props |= 1L << where;
        }

        void takeProp(int where) {
            props &= ~(1L << where);
        }

        boolean isOpen(int where) {
            return !holds(props, where) && slotAt(where) == NONE;
        }

        int slotOf(int dancer) {
            for (int slot = 0; slot < dancerCount; slot++) {
                if (at(number, slot) == dancer) {
                    return slot;
                }
            }
            return NONE;
        }

        int slotAt(int where) {
            for (int slot = 0; slot < dancerCount; slot++) {
                if (at(cell, slot) == where) {
                    return slot;
                }
            }
            return NONE;
        }

        /** The cells of all dancers but the one in a slot. */
        long cellsOfOthers(int slot) {
            long cells = 0L;
            for (int other = 0; other < dancerCount; other++) {
                if (other != slot) {
                    cells |= 1L << at(cell, other);
                }
            }
            return cells;
        }

        int bringDancer(int where, int withNails) {
            int slot = dancerCount;
            int dancer = nextNumber;
            set(number, slot, dancer);
            set(cell, slot, where);
            set(nails, slot, withNails);
            set(partnerNumber, slot, NONE);
            dancerCount = slot + 1;
            nextNumber = dancer + 1;
            brought += withNails;
            return dancer;
        }

        void dismissDancer(int slot) {
            takenAway += at(nails, slot);
            separate(slot);
            for (int later = slot + 1; later < dancerCount; later++) {
                set(number, later - 1, at(number, later));
                set(cell, later - 1, at(cell, later));
                set(nails, later - 1, at(nails, later));
                set(partnerNumber, later - 1, at(partnerNumber, later));
            }
            dancerCount--;
        }

        void dismissAll() {
            takenAway += sumOfNails();
            dancerCount = 0;
        }

        void bind(int first, int second) {
            set(partnerNumber, slotOf(first), second);
            set(partnerNumber, slotOf(second), first);
        }

        void separate(int slot) {
            int other = at(partnerNumber, slot);
            if (other != NONE) {
                set(partnerNumber, slotOf(other), NONE);
                set(partnerNumber, slot, NONE);
            }
        }

        int partnerOf(int dancer) {
            return at(partnerNumber, slotOf(dancer));
        }

        int countPaired() {
            int paired = 0;
            for (int slot = 0; slot < dancerCount; slot++) {
                if (at(partnerNumber, slot) != NONE) {
                    paired++;
                }
            }
            return paired;
        }

        int fillNails(int slot) {
            int old = at(nails, slot);
            set(nails, slot, MOST_NAILS);
            given += MOST_NAILS - old;
            return old;
        }

        int sumOfNails() {
            int sum = 0;
            for (int slot = 0; slot < dancerCount; slot++) {
                sum += at(nails, slot);
            }
            return sum;
        }

        int lostByParts() {
            return brought + given - sumOfNails() - takenAway;
        }

        int numberAtRank(int rank) {
            for (int slot = 0; slot < dancerCount; slot++) {
                if (rankOf(slot) == rank) {
                    return at(number, slot);
                }
            }
            return NONE;
        }

        private int rankOf(int slot) {
            int own = at(nails, slot);
            int rank = 0;
            for (int other = 0; other < dancerCount; other++) {
                int others = at(nails, other);
                if (others < own || others == own && other < slot) {
                    rank++;
                }
            }
            return rank;
        }

        int movesIn(int figure) {
            return at(figureSize, figure);
        }

        int moveAt(int figure, int beat) {
            return at(figureMoves, figure * MOST_MOVES + beat);
        }

        void appendMove(int figure, int move) {
            int size = movesIn(figure);
            set(figureMoves, figure * MOST_MOVES + size, move);
            set(figureSize, figure, size + 1);
        }

        void emptyFigure(int figure) {
            set(figureSize, figure, 0);
        }

        boolean hasExitAt(int where) {
            for (int exit = 0; exit < exitCount; exit++) {
                if (at(exitCell, exit) == where) {
                    return true;
                }
            }
            return false;
        }

        void openExit(int where) {
            set(exitCell, exitCount, where);
            exitCount++;
        }

        void closeExit(int exit) {
            for (int later = exit + 1; later < exitCount; later++) {
                set(exitCell, later - 1, at(exitCell, later));
            }
            exitCount--;
        }

        char signAt(int where) {
            if (holds(props, where)) {
                return '#';
            }
            int slot = slotAt(where);
            return slot == NONE ? '.' : (char) ('0' + at(number, slot) % 10);
        }

        boolean hasSoundStage() {
            if (countProps() > MOST_PROPS || exitCount < 0 || exitCount > MOST_EXITS) {
                return false;
            }
            long cells = 0L;
            for (int exit = 0; exit < exitCount; exit++) {
                cells |= 1L << at(exitCell, exit);
            }
            return Long.bitCount(cells) == exitCount;
        }

        boolean hasSoundDancers() {
            if (dancerCount < 0 || dancerCount > MOST_DANCERS) {
                return false;
            }
            long cells = cellsOfOthers(NONE);
            if (Long.bitCount(cells) != dancerCount || (cells & props) != 0L) {
                return false;
            }
            for (int slot = 0; slot < dancerCount; slot++) {
                if (!isSoundDancer(slot)) {
                    return false;
                }
            }
            return true;
        }

        private boolean isSoundDancer(int slot) {
            int own = at(number, slot);
            int left = at(nails, slot);
            int other = at(partnerNumber, slot);
            boolean inOrder = own < nextNumber && (slot == 0 || at(number, slot - 1) < own);
            boolean bound = other == NONE || other != own && partnerOf(other) == own;
            return inOrder && bound && left >= 0 && left <= MOST_NAILS;
        }

        boolean hasSoundFigures() {
            for (int figure = 0; figure < FIGURES; figure++) {
                int size = movesIn(figure);
                if (size < 0 || size > MOST_MOVES) {
                    return false;
                }
            }
            return true;
        }
    }

    /** The states before the latest changes, in a ring. */
    private static final class History {
        private final State[] states = new State[MOST_UNDOS];
        private int next;
        int count;

        History() {
            for (int index = 0; index < states.length; index++) {
                states[index] = new State();
            }
        }

        void push(State state) {
            State place = placeAt(next);
            if (place != null) {
                place.copyFrom(state);
            }
            next = next + 1 < MOST_UNDOS ? next + 1 : 0;
            count = count < MOST_UNDOS ? count + 1 : MOST_UNDOS;
        }

        void popInto(State state) {
            next = next > 0 ? next - 1 : MOST_UNDOS - 1;
            count = count > 0 ? count - 1 : 0;
            State place = placeAt(next);
            if (place != null) {
                state.copyFrom(place);
            }
        }

        private State placeAt(int index) {
            return index >= 0 && index < states.length ? states[index] : null;
        }
    }

    /** Connected cells without props. */
    private static final class Areas {
        private final int[] open = new int[CELLS];
        private final int[] parent = new int[CELLS];

        int countByFilling(long props) {
            long reached = props;
            int count = 0;
            for (int cell = 0; cell < CELLS; cell++) {
                if (!holds(reached, cell)) {
                    reached |= fillFrom(cell, props);
                    count++;
                }
            }
            return count;
        }

        /** Returns the cells of the area of a cell, none if it has a prop. */
        long fillFrom(int start, long props) {
            if (holds(props, start)) {
                return 0L;
            }
            long area = 1L << start;
            int found = 1;
            set(open, 0, start);
            for (int taken = 0; taken < found && taken < CELLS; taken++) {
                int cell = at(open, taken);
                for (int direction = 0; direction < DIRECTIONS; direction++) {
                    int next = cellAfter(cell, direction);
                    if (next != NONE && !holds(props | area, next)) {
                        area |= 1L << next;
                        set(open, found, next);
                        found++;
                    }
                }
            }
            return area;
        }

        int countByUniting(long props) {
            int count = CELLS - Long.bitCount(props);
            for (int cell = 0; cell < CELLS; cell++) {
                set(parent, cell, cell);
            }
            for (int cell = 0; cell < CELLS; cell++) {
                if (!holds(props, cell)) {
                    count -= unite(cell, cellAfter(cell, RIGHT), props);
                    count -= unite(cell, cellAfter(cell, UP), props);
                }
            }
            return count;
        }

        /** Returns 1 if two sets became one, otherwise 0. */
        private int unite(int cell, int neighbour, long props) {
            if (neighbour == NONE || holds(props, neighbour)) {
                return 0;
            }
            int root = rootOf(cell);
            int otherRoot = rootOf(neighbour);
            if (root == otherRoot) {
                return 0;
            }
            set(parent, otherRoot, root);
            return 1;
        }

        private int rootOf(int cell) {
            int root = cell;
            for (int step = 0; step < CELLS && at(parent, root) != root; step++) {
                root = at(parent, root);
            }
            return root;
        }
    }

    /** Lengths of shortest ways from one cell; closed cells are neither crossed nor reached. */
    private static final class Ways {
        private final int[] steps = new int[CELLS];
        private final int[] queue = new int[CELLS];

        /** Returns the length of the way to a cell by the latest search, or NONE. */
        int lengthTo(int cell) {
            return at(steps, cell);
        }

        void searchBreadthFirst(int start, long closed) {
            fill(steps, NONE);
            set(steps, start, 0);
            set(queue, 0, start);
            int found = 1;
            for (int taken = 0; taken < found && taken < CELLS; taken++) {
                int cell = at(queue, taken);
                for (int direction = 0; direction < DIRECTIONS; direction++) {
                    int next = cellAfter(cell, direction);
                    if (next != NONE && at(steps, next) == NONE && !holds(closed, next)) {
                        set(steps, next, at(steps, cell) + 1);
                        set(queue, found, next);
                        found++;
                    }
                }
            }
        }

        void improveInRounds(int start, long closed) {
            fill(steps, NONE);
            set(steps, start, 0);
            boolean changed = true;
            for (int round = 0; round < CELLS && changed; round++) {
                changed = false;
                for (int cell = 0; cell < CELLS; cell++) {
                    if (!holds(closed, cell) && improve(cell)) {
                        changed = true;
                    }
                }
            }
        }

        private boolean improve(int cell) {
            boolean improved = false;
            for (int direction = 0; direction < DIRECTIONS; direction++) {
                int known = at(steps, cellAfter(cell, direction));
                int old = at(steps, cell);
                if (known != NONE && (old == NONE || known + 1 < old)) {
                    set(steps, cell, known + 1);
                    improved = true;
                }
            }
            return improved;
        }
    }

    /** A figure gone through beat by beat, before it is shown on the stage. */
    private static final class Rehearsal {
        private int leader;
        /** The slot of the partner, or NONE. */
        private int follower;
        private int leaderCell;
        private int leaderNails;
        private int followerCell;
        private int followerNails;
        /** The cells with props or with dancers who are neither of the two. */
        private long closed;
        int lost;

        /** Returns the first blocked beat, or NONE; then the two stand as after the figure. */
        int firstBlocked(State state, int figure, int dancer) {
            leader = state.slotOf(dancer);
            follower = state.slotOf(state.partnerOf(dancer));
            leaderCell = at(state.cell, leader);
            leaderNails = at(state.nails, leader);
            followerCell = at(state.cell, follower);
            followerNails = at(state.nails, follower);
            lost = 0;
            closed = state.props | state.cellsOfOthers(leader);
            if (follower != NONE) {
                closed &= ~(1L << followerCell);
            }
            int beats = state.movesIn(figure);
            for (int beat = 0; beat < beats; beat++) {
                int move = state.moveAt(figure, beat);
                if (move != STAY && !goOn(move)) {
                    return beat;
                }
            }
            return NONE;
        }

        /** Makes a move other than S and its mirrored move, or returns false if the beat is blocked. */
        private boolean goOn(int move) {
            int leaderGoal = cellAfter(leaderCell, move);
            if (leaderNails == 0 || !canCome(leaderGoal)) {
                return false;
            }
            if (follower != NONE) {
                int followerGoal = cellAfter(followerCell, mirroredMove(move));
                if (followerNails == 0 || !canCome(followerGoal)) {
                    return false;
                }
                boolean exchange = leaderGoal == followerCell && followerGoal == leaderCell;
                if (leaderGoal == followerGoal || exchange) {
                    return false;
                }
                followerCell = followerGoal;
                followerNails--;
                lost++;
            }
            leaderCell = leaderGoal;
            leaderNails--;
            lost++;
            return true;
        }

        private boolean canCome(int goal) {
            return goal != NONE && !holds(closed, goal);
        }

        void showOn(State state) {
            set(state.cell, leader, leaderCell);
            set(state.nails, leader, leaderNails);
            if (follower != NONE) {
                set(state.cell, follower, followerCell);
                set(state.nails, follower, followerNails);
            }
            state.lost += lost;
        }
    }

    /** The cheapest way for all dancers to leave. */
    private static final class ExitPlan {
        private int dancerCount;
        private int exitCount;
        /** The exit distance of a slot and an exit, FAR if there is none. */
        private final int[] cost = new int[MOST_EXITS * MOST_EXITS];
        /** For each set of used exits, the smallest cost of the dancers who are still to leave. */
        private final int[] rest = new int[1 << MOST_EXITS];

        // For the Hungarian algorithm dancers and exits are counted from 1, and 0 stands for none.
        private final int[] dancerPotential = new int[MOST_EXITS + 1];
        private final int[] exitPotential = new int[MOST_EXITS + 1];
        private final int[] dancerAt = new int[MOST_EXITS + 1];
        private final int[] cameFrom = new int[MOST_EXITS + 1];
        private final int[] slack = new int[MOST_EXITS + 1];
        private final int[] visited = new int[MOST_EXITS + 1];

        void measure(State state, Ways ways) {
            dancerCount = state.dancerCount;
            exitCount = state.exitCount;
            if (dancerCount > exitCount) {
                return;
            }
            for (int slot = 0; slot < dancerCount; slot++) {
                ways.searchBreadthFirst(at(state.cell, slot), state.props);
                for (int exit = 0; exit < exitCount; exit++) {
                    int steps = ways.lengthTo(at(state.exitCell, exit));
                    set(cost, slot * MOST_EXITS + exit, steps == NONE ? FAR : steps);
                }
            }
        }

        private int costOf(int slot, int exit) {
            return at(cost, slot * MOST_EXITS + exit);
        }

        /** Returns the cost of the best plan, or NONE if there is no plan. */
        int costByTable() {
            if (dancerCount > exitCount) {
                return NONE;
            }
            for (int used = (1 << exitCount) - 1; used >= 0; used--) {
                int slot = Integer.bitCount(used);
                set(rest, used, slot >= dancerCount ? 0 : smallestRest(slot, used));
            }
            return at(rest, 0) < FAR ? at(rest, 0) : NONE;
        }

        private int smallestRest(int slot, int used) {
            int smallest = FAR;
            for (int exit = 0; exit < exitCount; exit++) {
                if ((used >>> exit & 1) == 0) {
                    int own = at(cost, slot * MOST_EXITS + exit);
                    smallest = Math.min(smallest, own + at(rest, used | 1 << exit));
                }
            }
            return smallest;
        }

        /** Needs the table of a plan that exists. */
        int exitForSlot(int wanted) {
            int used = 0;
            int exit = NONE;
            for (int slot = 0; slot <= wanted && slot < MOST_EXITS; slot++) {
                exit = firstExitFor(slot, used);
                used |= exit == NONE ? 0 : 1 << exit;
            }
            return exit;
        }

        private int firstExitFor(int slot, int used) {
            for (int exit = 0; exit < exitCount; exit++) {
                boolean unused = (used >>> exit & 1) == 0;
                if (unused && costOf(slot, exit) + at(rest, used | 1 << exit) == at(rest, used)) {
                    return exit;
                }
            }
            return NONE;
        }

        /** Returns the same cost as costByTable. */
        int costByPotentials() {
            if (dancerCount > exitCount) {
                return NONE;
            }
            fill(dancerPotential, 0);
            fill(exitPotential, 0);
            fill(dancerAt, 0);
            for (int dancer = 1; dancer <= dancerCount; dancer++) {
                place(dancer);
            }
            int sum = 0;
            for (int exit = 1; exit <= exitCount; exit++) {
                int dancer = at(dancerAt, exit);
                sum += dancer > 0 ? costOf(dancer - 1, exit - 1) : 0;
            }
            return sum < FAR ? sum : NONE;
        }

        /** Gives one more dancer an exit, along a cheapest chain of exchanges. */
        private void place(int dancer) {
            fill(visited, 0);
            // No slack comes near this: potentials and costs stay within a few times FAR.
            fill(slack, 1000 * FAR);
            set(dancerAt, 0, dancer);
            int exit = 0;
            for (int round = 0; round <= exitCount && at(dancerAt, exit) != 0; round++) {
                set(visited, exit, 1);
                updateSlack(exit);
                int next = leastSlack();
                shiftPotentials(at(slack, next));
                exit = next;
            }
            for (int step = 0; step <= exitCount && exit != 0; step++) {
                int former = at(cameFrom, exit);
                set(dancerAt, exit, at(dancerAt, former));
                exit = former;
            }
        }

        private void updateSlack(int from) {
            int dancer = at(dancerAt, from);
            for (int exit = 1; exit <= exitCount; exit++) {
                int reduced = costOf(dancer - 1, exit - 1)
                        - at(dancerPotential, dancer) - at(exitPotential, exit);
                if (at(visited, exit) == 0 && reduced < at(slack, exit)) {
                    set(slack, exit, reduced);
                    set(cameFrom, exit, from);
                }
            }
        }

        private int leastSlack() {
            int least = 0;
            for (int exit = 1; exit <= exitCount; exit++) {
                if (at(visited, exit) == 0 && (least == 0 || at(slack, exit) < at(slack, least))) {
                    least = exit;
                }
            }
            return least;
        }

        private void shiftPotentials(int delta) {
            for (int exit = 0; exit <= exitCount; exit++) {
                if (at(visited, exit) != 0) {
                    int dancer = at(dancerAt, exit);
                    set(dancerPotential, dancer, at(dancerPotential, dancer) + delta);
                    set(exitPotential, exit, at(exitPotential, exit) - delta);
                } else {
                    set(slack, exit, at(slack, exit) - delta);
                }
            }
        }
    }

    /** The program buffer and its parser. */
    private static final class Program {
        /** Even "leave", the shortest command, takes 6 of the 60 characters with its semicolon. */
        private static final int MOST_COMMANDS = 10;
        private static final int ARGUMENTS = 3;

        private final char[] text = new char[MOST_TYPED];
        int length;
        int commands;
        final int[] kinds = new int[MOST_COMMANDS];
        private final int[] arguments = new int[MOST_COMMANDS * ARGUMENTS];
        private int position;
        private int argumentsRead;

        void append(char character) {
            if (length >= 0 && length < text.length) {
                text[length] = character;
                length++;
            }
        }

        int argument(int command, int index) {
            return at(arguments, command * ARGUMENTS + index);
        }

        int moveAt(int index) {
            return index >= 0 && index < text.length ? moveIndex(text[index]) : NONE;
        }

        /** Returns NONE if the text is a program, otherwise its error position. */
        int parse() {
            commands = 0;
            position = 0;
            for (int count = 0; count <= MOST_COMMANDS; count++) {
                if (!readCommand()) {
                    return position;
                }
                if (position == length) {
                    return NONE;
                }
                if (!readSign(';')) {
                    return position;
                }
            }
            return position;
        }

        /** Like all that reads, returns false with the position at the first wrong character. */
        private boolean readCommand() {
            int kind = readWord();
            if (kind == NONE) {
                return false;
            }
            argumentsRead = 0;
            String shape = shapeOf(kind);
            for (int index = 0; index < shape.length(); index++) {
                if (!readPart(shape.charAt(index))) {
                    return false;
                }
            }
            set(kinds, commands, kind);
            commands++;
            return true;
        }

        /** Returns the kind of the command that begins here, or NONE. */
        private int readWord() {
            int furthest = 0;
            for (int kind = 0; kind < COMMAND_KINDS; kind++) {
                String word = wordOf(kind);
                int matching = countMatching(word);
                if (matching == word.length()) {
                    position += matching;
                    return kind;
                }
                furthest = Math.max(furthest, matching);
            }
            position += furthest;
            return NONE;
        }

        private int countMatching(String word) {
            for (int index = 0; index < word.length(); index++) {
                if (signAt(position + index) != word.charAt(index)) {
                    return index;
                }
            }
            return word.length();
        }

        private boolean readPart(char part) {
            switch (part) {
                case 'd':
                    return readNumber(1);
                case 'n':
                    return readNumber(2);
                case 'm':
                    readMoves();
                    return true;
                default:
                    return readSign(part);
            }
        }

        private boolean readSign(char sign) {
            if (signAt(position) != sign) {
                return false;
            }
            position++;
            return true;
        }

        private boolean readNumber(int mostDigits) {
            int value = 0;
            int digits = 0;
            while (digits < mostDigits && isDigit(signAt(position))) {
                value = 10 * value + signAt(position) - '0';
                position++;
                digits++;
            }
            keepArgument(value);
            return digits > 0;
        }

        /** Keeps where the moves begin and end. */
        private void readMoves() {
            keepArgument(position);
            for (int count = 0; count < MOST_TYPED && moveIndex(signAt(position)) != NONE; count++) {
                position++;
            }
            keepArgument(position);
        }

        private void keepArgument(int value) {
            set(arguments, commands * ARGUMENTS + argumentsRead, value);
            argumentsRead++;
        }

        /** Returns the character at an index, or NONE behind the end. */
        private int signAt(int index) {
            return index >= 0 && index < length && index < text.length ? text[index] : NONE;
        }

        private static boolean isDigit(int sign) {
            return sign >= '0' && sign <= '9';
        }

        private static String wordOf(int kind) {
            switch (kind) {
                case PROP:
                    return "prop ";
                case DANCER:
                    return "dancer ";
                case PAIR:
                    return "pair ";
                case FIGURE:
                    return "figure ";
                case PERFORM:
                    return "perform ";
                case WALK:
                    return "walk ";
                case EXIT:
                    return "exit ";
                case NAILS:
                    return "nails ";
                default:
                    return "leave";
            }
        }

        /** What follows the word: d is a digit, n a number, m moves, anything else itself. */
        private static String shapeOf(int kind) {
            switch (kind) {
                case PROP:
                    return "dd";
                case DANCER:
                    return "dd*n";
                case PAIR:
                    return "n&n";
                case FIGURE:
                    return "d:m";
                case PERFORM:
                    return "d n";
                case WALK:
                    return "n>dd";
                case EXIT:
                    return "dd";
                case NAILS:
                    return "n";
                default:
                    return "";
            }
        }
    }

    /** The output line. */
    private static final class Line {
        final char[] letters = new char[MOST_MOVES];
        int length;

        void empty() {
            length = 0;
        }

        void put(char letter) {
            if (length >= 0 && length < letters.length) {
                letters[length] = letter;
                length++;
            }
        }

        void putRepeated(int times, char letter) {
            if (times >= 10) {
                put((char) ('0' + times / 10));
            }
            if (times >= 2) {
                put((char) ('0' + times % 10));
            }
            put(letter);
        }
    }
}
