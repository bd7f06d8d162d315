import java.util.ArrayList;
import java.util.List;
import java.util.concurrent.Callable;

/** What can be seen of an object by calls, as texts; some looks spoil the object. */
final class Sight {
    private static final int NUMBERS = 20;

    private final StageBallet ballet;
    private final List<String> seen = new ArrayList<>();

    private Sight(StageBallet ballet) {
        this.ballet = ballet;
    }

    /** The ways to look at an object; each is given an object of its own. */
    enum Look { LINE, STATE, EXITS, CHANGES, SAVED, BUFFER, ERRORS }

    static List<String> of(Look look, StageBallet ballet) {
        Sight sight = new Sight(ballet);
        switch (look) {
            case LINE -> sight.line();
            case STATE -> sight.state();
            case EXITS -> sight.exits();
            case CHANGES -> sight.changes();
            case SAVED -> sight.saved();
            case BUFFER -> sight.buffer();
            default -> sight.errors();
        }
        return sight.seen;
    }

    private void note(String what, Callable<?> call) {
        seen.add(what + " " + Check.answer(call));
    }

    private void line() {
        StringBuilder text = new StringBuilder();
        String sign = Check.answer(() -> ballet.charAt(0));
        while (!sign.startsWith("throws.")) {
            text.append(sign);
            sign = Check.answer(() -> ballet.charAt(text.length()));
        }
        seen.add("line " + text);
    }

    private void state() {
        for (int y = 0; y < 8; y++) {
            int row = y;
            note("writeRow " + y, () -> ballet.writeRow(row));
            line();
        }
        for (int k = 0; k < NUMBERS; k++) {
            int dancer = k;
            if (ballet.isPresent(k)) {
                note("column " + k, () -> ballet.column(dancer));
                note("nails " + k, () -> ballet.nails(dancer));
                note("partner " + k, () -> ballet.partner(dancer));
            }
        }
        for (int k = 0; k < 6; k++) {
            int figure = k;
            note("writeFigure " + k, () -> ballet.writeFigure(figure));
            line();
        }
        sums();
    }

    private void sums() {
        note("areas", ballet::areas);
        note("dancers", ballet::dancers);
        note("exits", ballet::exits);
        note("lostNails", ballet::lostNails);
        note("lostNailsByParts", ballet::lostNailsByParts);
        note("isConsistent", ballet::isConsistent);
    }

    /** Where the exits are, measured by two new dancers on the stage without props; also their numbers. */
    private void exits() {
        for (int k = 0; k < NUMBERS; k++) {
            if (ballet.isPresent(k)) {
                ballet.removeDancer(k);
            }
        }
        for (int cell = 0; cell < 64; cell++) {
            if (!ballet.isFree(cell % 8, cell / 8)) {
                ballet.removeProp(cell % 8, cell / 8);
            }
        }
        int first = ballet.addDancer(0, 0, 20);
        int second = ballet.addDancer(7, 0, 20);
        seen.add("numbers " + first + " " + second);
        for (int k = 0; k < ballet.exits(); k++) {
            int exit = k;
            note("exitDistance 0", () -> ballet.exitDistance(first, exit));
            note("exitDistance 7", () -> ballet.exitDistance(second, exit));
        }
    }

    private void changes() {
        for (int k = 0; k < 9; k++) {
            note("undo", ballet::undo);
            sums();
            for (int figure = 0; figure < 6; figure++) {
                int which = figure;
                note("figureLength", () -> ballet.figureLength(which));
            }
            if (ballet.dancers() > 0) {
                note("meanNails", ballet::meanNails);
                note("pairedShare", ballet::pairedShare);
            }
        }
        state();
    }

    private void saved() {
        note("restore", ballet::restore);
        state();
    }

    private void buffer() {
        note("type", () -> ballet.type('!'));
        note("run", ballet::run);
        note("errorPosition", ballet::errorPosition);
    }

    private void errors() {
        note("errorPosition", ballet::errorPosition);
        note("failedCommand", ballet::failedCommand);
    }
}
