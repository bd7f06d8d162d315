import java.util.Random;
import java.util.concurrent.Callable;

/**
 * Series of 512 arbitrary calls, each compared with the model. The seeds are fixed, so that every run
 * of the test makes the same calls.
 */
final class ModelTest {
    private static final int SERIES = 1500;
    private static final int CALLS = 512;

    private final Random random;
    private final int seed;
    /** How much of the stage the cells come from: a small corner makes dancers meet. */
    private final int width;
    private final int changesPerQuestion;
    private final StageBallet ballet = new StageBallet();
    private final Model model = new Model();
    private int calls = 0;

    private ModelTest(int seed) {
        this.seed = seed;
        random = new Random(seed);
        width = 2 + random.nextInt(7);
        changesPerQuestion = 1 + random.nextInt(3);
    }

    public static void main(String[] args) {
        for (int seed = 0; seed < SERIES && !Check.anyWrong(); seed++) {
            new ModelTest(seed).series();
        }
        Check.end("ModelTest");
    }

    private void series() {
        while (calls < CALLS && !Check.anyWrong()) {
            if (random.nextInt(25) == 0) {
                program();
            } else if (random.nextInt(changesPerQuestion + 1) > 0) {
                change();
            } else {
                question();
            }
        }
    }

    private void same(String call, Callable<?> got, Callable<?> want) {
        calls++;
        if (calls <= CALLS) {
            Check.same("seed " + seed + ", call " + calls + ": " + call, Check.answer(want),
                    Check.answer(got));
        }
    }

    private int coordinate() {
        return random.nextInt(40) == 0 ? random.nextInt(12) - 2 : random.nextInt(width) % 8;
    }

    private int dancer() {
        for (int tries = 0; tries < 20 && random.nextInt(15) != 0; tries++) {
            int number = random.nextInt(30);
            if (model.isPresent(number)) {
                return number;
            }
        }
        return random.nextInt(14) - 2;
    }

    private int figure() {
        return random.nextInt(30) == 0 ? random.nextInt(10) - 2 : random.nextInt(6);
    }

    private int exit() {
        return random.nextInt(8) - 1;
    }

    private char move() {
        return random.nextInt(30) == 0 ? (char) random.nextInt(0x10000) : "UDLRS".charAt(random.nextInt(5));
    }

    private int fewNails() {
        return random.nextInt(20) == 0 ? random.nextInt(30) - 4 : random.nextInt(21);
    }

    private void change() {
        int x = coordinate();
        int y = coordinate();
        int dancer = dancer();
        int other = dancer();
        int figure = figure();
        String cell = "(" + x + ", " + y + ")";
        switch (random.nextInt(32)) {
            case 0, 1 -> same("addProp" + cell, () -> ballet.addProp(x, y), () -> model.addProp(x, y));
            case 2, 3 -> same("removeProp" + cell, () -> ballet.removeProp(x, y),
                    () -> model.removeProp(x, y));
            case 4, 5, 6, 7 -> {
                int nails = fewNails();
                same("addDancer" + cell + nails, () -> ballet.addDancer(x, y, nails),
                        () -> model.addDancer(x, y, nails));
            }
            case 8 -> same("removeDancer " + dancer, () -> ballet.removeDancer(dancer),
                    () -> model.removeDancer(dancer));
            case 9, 10, 11 -> same("pair " + dancer + " " + other, () -> ballet.pair(dancer, other),
                    () -> model.pair(dancer, other));
            case 12 -> same("unpair " + dancer, () -> ballet.unpair(dancer), () -> model.unpair(dancer));
            case 13 -> same("renewNails " + dancer, () -> ballet.renewNails(dancer),
                    () -> model.renewNails(dancer));
            case 14, 15, 16, 17 -> {
                char move = move();
                same("addMove " + figure + move, () -> ballet.addMove(figure, move),
                        () -> model.addMove(figure, move));
            }
            case 18 -> same("clearFigure " + figure, () -> ballet.clearFigure(figure),
                    () -> model.clearFigure(figure));
            case 19, 20, 21, 22 -> same("perform " + figure + " " + dancer,
                    () -> ballet.perform(figure, dancer), () -> model.perform(figure, dancer));
            case 23, 24 -> same("walk " + dancer + cell, () -> ballet.walk(dancer, x, y),
                    () -> model.walk(dancer, x, y));
            case 25, 26 -> same("addExit" + cell, () -> ballet.addExit(x, y), () -> model.addExit(x, y));
            case 27 -> {
                int exit = exit();
                same("removeExit " + exit, () -> ballet.removeExit(exit), () -> model.removeExit(exit));
            }
            case 28 -> {
                if (random.nextInt(4) == 0) {
                    same("leaveAll", ballet::leaveAll, model::leaveAll);
                }
            }
            case 29 -> undoSome();
            case 30 -> same("save", ballet::save, model::save);
            default -> {
                if (random.nextInt(4) == 0) {
                    same("restore", ballet::restore, model::restore);
                }
            }
        }
    }

    private void undoSome() {
        int times = random.nextInt(12) == 0 ? 9 : random.nextInt(3);
        for (int k = 0; k < times; k++) {
            same("undo", ballet::undo, model::undo);
        }
    }

    private void question() {
        switch (random.nextInt(4)) {
            case 0 -> aboutDancers();
            case 1 -> aboutWays();
            case 2 -> aboutAll();
            default -> aboutTexts();
        }
    }

    private void aboutDancers() {
        int dancer = dancer();
        int figure = figure();
        switch (random.nextInt(9)) {
            case 0 -> same("isPresent " + dancer, () -> ballet.isPresent(dancer),
                    () -> model.isPresent(dancer));
            case 1 -> same("column " + dancer, () -> ballet.column(dancer), () -> model.column(dancer));
            case 2 -> same("row " + dancer, () -> ballet.row(dancer), () -> model.row(dancer));
            case 3 -> same("nails " + dancer, () -> ballet.nails(dancer), () -> model.nails(dancer));
            case 4 -> same("partner " + dancer, () -> ballet.partner(dancer), () -> model.partner(dancer));
            case 5 -> {
                int rank = random.nextInt(10) - 1;
                same("dancerByNails " + rank, () -> ballet.dancerByNails(rank),
                        () -> model.dancerByNails(rank));
            }
            case 6 -> same("figureLength " + figure, () -> ballet.figureLength(figure),
                    () -> model.figureLength(figure));
            default -> same("blockedBeat " + figure + " " + dancer,
                    () -> ballet.blockedBeat(figure, dancer), () -> model.blockedBeat(figure, dancer));
        }
    }

    private void aboutWays() {
        int dancer = dancer();
        int x = coordinate();
        int y = coordinate();
        int exit = exit();
        String cell = "(" + x + ", " + y + ")";
        switch (random.nextInt(8)) {
            case 0 -> same("distance " + dancer + cell, () -> ballet.distance(dancer, x, y),
                    () -> model.distance(dancer, x, y));
            case 1 -> same("distanceByRounds " + dancer + cell,
                    () -> ballet.distanceByRounds(dancer, x, y), () -> model.distance(dancer, x, y));
            case 2 -> same("exitDistance " + dancer + " " + exit, () -> ballet.exitDistance(dancer, exit),
                    () -> model.exitDistance(dancer, exit));
            case 3 -> same("exitCost", ballet::exitCost, model::exitCost);
            case 4 -> same("exitCostByPotentials", ballet::exitCostByPotentials, model::exitCost);
            case 5 -> same("isFree" + cell, () -> ballet.isFree(x, y), () -> model.isFree(x, y));
            case 6 -> same("areaSize" + cell, () -> ballet.areaSize(x, y), () -> model.areaSize(x, y));
            default -> same("exitOf " + dancer, () -> ballet.exitOf(dancer), () -> model.exitOf(dancer));
        }
    }

    private void aboutAll() {
        switch (random.nextInt(13)) {
            case 0 -> same("areas", ballet::areas, model::areas);
            case 1 -> same("areasByUnions", ballet::areasByUnions, model::areas);
            case 2 -> same("dancers", ballet::dancers, model::dancers);
            case 3 -> same("exits", ballet::exits, model::exits);
            case 4 -> same("isMirrored", ballet::isMirrored, model::isMirrored);
            case 5 -> same("isMirroredByRows", ballet::isMirroredByRows, model::isMirrored);
            case 6 -> same("lostNails", ballet::lostNails, model::lostNails);
            case 7 -> same("lostNailsByParts", ballet::lostNailsByParts, model::lostNails);
            case 8 -> same("meanNails", ballet::meanNails, model::meanNails);
            case 9 -> same("meanNailsBits", ballet::meanNailsBits,
                    () -> Double.doubleToLongBits(model.meanNails()));
            case 10 -> same("pairedShare", ballet::pairedShare, model::pairedShare);
            case 11 -> same("pairedShareBits", ballet::pairedShareBits,
                    () -> Float.floatToIntBits(model.pairedShare()));
            default -> same("isConsistent", ballet::isConsistent, () -> true);
        }
    }

    private void aboutTexts() {
        int y = coordinate();
        int figure = figure();
        int index = random.nextInt(15) - 1;
        switch (random.nextInt(5)) {
            case 0 -> same("writeRow " + y, () -> ballet.writeRow(y), () -> model.writeRow(y));
            case 1 -> same("writeFigure " + figure, () -> ballet.writeFigure(figure),
                    () -> model.writeFigure(figure));
            case 2 -> same("errorPosition", ballet::errorPosition, model::errorPosition);
            case 3 -> same("failedCommand", ballet::failedCommand, model::failedCommand);
            default -> same("charAt " + index, () -> ballet.charAt(index), () -> model.charAt(index));
        }
    }

    private void program() {
        StringBuilder text = new StringBuilder(command());
        while (text.length() < 50 && random.nextInt(3) != 0) {
            text.append(';').append(command());
        }
        if (random.nextInt(4) == 0) {
            spoil(text);
        }
        for (int k = 0; k < text.length(); k++) {
            char character = text.charAt(k);
            same("type " + character, () -> ballet.type(character), () -> model.type(character));
        }
        same("run of " + text, ballet::run, model::run);
        same("errorPosition of " + text, ballet::errorPosition, model::errorPosition);
        same("failedCommand of " + text, ballet::failedCommand, model::failedCommand);
    }

    private void spoil(StringBuilder text) {
        String signs = "prodanceikwlgfmstvxUDLRS0123456789 ;:*&>\u0000\u00e9\u2026";
        char sign = signs.charAt(random.nextInt(signs.length()));
        int place = random.nextInt(text.length());
        switch (random.nextInt(4)) {
            case 0 -> text.setCharAt(place, sign);
            case 1 -> text.insert(place, sign);
            case 2 -> text.deleteCharAt(place);
            default -> text.setLength(place);
        }
    }

    private String command() {
        String cell = "" + (coordinate() & 7) + (coordinate() & 7);
        int dancer = Math.max(0, dancer());
        switch (random.nextInt(9)) {
            case 0:
                return "prop " + cell;
            case 1:
                return "dancer " + cell + "*" + random.nextInt(22);
            case 2:
                return "pair " + dancer + "&" + Math.max(0, dancer());
            case 3:
                StringBuilder moves = new StringBuilder("figure " + random.nextInt(6) + ":");
                while (random.nextInt(4) != 0) {
                    moves.append("UDLRS".charAt(random.nextInt(5)));
                }
                return moves.toString();
            case 4:
                return "perform " + random.nextInt(7) + " " + dancer;
            case 5:
                return "walk " + dancer + ">" + cell;
            case 6:
                return "exit " + cell;
            case 7:
                return "nails " + (random.nextBoolean() && dancer < 10 ? "0" : "") + dancer;
            default:
                return random.nextInt(3) == 0 ? "leave" : "nails " + dancer;
        }
    }
}
