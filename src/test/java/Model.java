import java.util.ArrayDeque;
import java.util.ArrayList;
import java.util.Collections;
import java.util.HashMap;
import java.util.HashSet;
import java.util.LinkedHashMap;
import java.util.LinkedHashSet;
import java.util.List;
import java.util.Map;
import java.util.NoSuchElementException;
import java.util.Set;
import java.util.TreeMap;
import java.util.function.Supplier;
import java.util.regex.Matcher;
import java.util.regex.Pattern;

/**
 * A second, slower program for the same document, written with the Java library and by other ways, so
 * that a mistake is unlikely to be in both: cells are texts, plans are tried one by one, and programs
 * are read by a regular expression.
 */
final class Model {
    private static final Pattern COMMAND = Pattern.compile("prop ([0-9])([0-9])"
            + "|dancer ([0-9])([0-9])\\*([0-9][0-9]?)|pair ([0-9][0-9]?)&([0-9][0-9]?)"
            + "|figure ([0-9]):([UDLRS]*)|perform ([0-9]) ([0-9][0-9]?)"
            + "|walk ([0-9][0-9]?)>([0-9])([0-9])|exit ([0-9])([0-9])|nails ([0-9][0-9]?)|leave");
    private static final Pattern PROGRAM =
            Pattern.compile("(?:" + COMMAND.pattern() + ")(?:;(?:" + COMMAND.pattern() + "))*");

    private static final class Person {
        int x;
        int y;
        int nails;
        Integer partner;

        Person copy() {
            Person person = new Person();
            person.x = x;
            person.y = y;
            person.nails = nails;
            person.partner = partner;
            return person;
        }

        String cell() {
            return x + "," + y;
        }
    }

    private static final class World {
        final Set<String> props = new HashSet<>();
        final TreeMap<Integer, Person> people = new TreeMap<>();
        final List<String> figures = new ArrayList<>(Collections.nCopies(6, ""));
        final List<String> exits = new ArrayList<>();
        int next = 0;
        int lost = 0;

        World copy() {
            World world = new World();
            world.props.addAll(props);
            people.forEach((number, person) -> world.people.put(number, person.copy()));
            Collections.copy(world.figures, figures);
            world.exits.addAll(exits);
            world.next = next;
            world.lost = lost;
            return world;
        }
    }

    private World world = new World();
    private World saved = null;
    private final ArrayDeque<World> past = new ArrayDeque<>();
    private boolean running = false;
    private String line = "";
    private String buffer = "";
    private Integer error = null;
    private Integer failure = null;

    private <T> T change(Supplier<T> effect) {
        if (!running) {
            past.addLast(world.copy());
            if (past.size() > 8) {
                past.removeFirst();
            }
        }
        return effect.get();
    }

    private static void index(boolean good) {
        if (!good) {
            throw new IndexOutOfBoundsException();
        }
    }

    private static void argument(boolean good) {
        if (!good) {
            throw new IllegalArgumentException();
        }
    }

    private static void state(boolean good) {
        if (!good) {
            throw new IllegalStateException();
        }
    }

    private static void element(boolean good) {
        if (!good) {
            throw new NoSuchElementException();
        }
    }

    private static void supported(boolean good) {
        if (!good) {
            throw new UnsupportedOperationException();
        }
    }

    private static boolean onStage(int x, int y) {
        return 0 <= x && x <= 7 && 0 <= y && y <= 7;
    }

    private Person person(int dancer) {
        element(world.people.containsKey(dancer));
        return world.people.get(dancer);
    }

    private Person personAt(String cell) {
        for (Person person : world.people.values()) {
            if (person.cell().equals(cell)) {
                return person;
            }
        }
        return null;
    }

    int addProp(int x, int y) {
        index(onStage(x, y));
        state(isFree(x, y) && world.props.size() < 20);
        return change(() -> {
            world.props.add(x + "," + y);
            return world.props.size();
        });
    }

    int removeProp(int x, int y) {
        index(onStage(x, y));
        state(world.props.contains(x + "," + y));
        return change(() -> {
            world.props.remove(x + "," + y);
            return world.props.size();
        });
    }

    boolean isFree(int x, int y) {
        index(onStage(x, y));
        return !world.props.contains(x + "," + y) && personAt(x + "," + y) == null;
    }

    int areas() {
        Set<Set<String>> areas = new HashSet<>();
        for (int x = 0; x < 8; x++) {
            for (int y = 0; y < 8; y++) {
                if (!world.props.contains(x + "," + y)) {
                    areas.add(new HashSet<>(lengths(x, y, world.props).keySet()));
                }
            }
        }
        return areas.size();
    }

    int areaSize(int x, int y) {
        index(onStage(x, y));
        return world.props.contains(x + "," + y) ? 0 : lengths(x, y, world.props).size();
    }

    /** The reachable cells with the lengths of the shortest ways. */
    private static Map<String, Integer> lengths(int x, int y, Set<String> closed) {
        Map<String, Integer> lengths = new HashMap<>();
        Set<String> border = new LinkedHashSet<>(Set.of(x + "," + y));
        for (int length = 0; !border.isEmpty(); length++) {
            Set<String> following = new LinkedHashSet<>();
            for (String cell : border) {
                lengths.put(cell, length);
            }
            for (String cell : border) {
                for (char move : "UDLR".toCharArray()) {
                    String next = moved(cell, move);
                    if (next != null && !closed.contains(next) && !lengths.containsKey(next)) {
                        following.add(next);
                    }
                }
            }
            border = following;
        }
        return lengths;
    }

    private static String moved(String cell, char move) {
        int x = cell.charAt(0) - '0' + (move == 'R' ? 1 : move == 'L' ? -1 : 0);
        int y = cell.charAt(2) - '0' + (move == 'U' ? 1 : move == 'D' ? -1 : 0);
        return onStage(x, y) ? x + "," + y : null;
    }

    int addDancer(int x, int y, int nails) {
        index(onStage(x, y));
        argument(0 <= nails && nails <= 20);
        state(isFree(x, y) && world.people.size() < 8);
        return change(() -> {
            Person person = new Person();
            person.x = x;
            person.y = y;
            person.nails = nails;
            world.people.put(world.next, person);
            return world.next++;
        });
    }

    int removeDancer(int dancer) {
        person(dancer);
        return change(() -> {
            Integer partner = world.people.remove(dancer).partner;
            if (partner != null) {
                world.people.get(partner).partner = null;
            }
            return world.people.size();
        });
    }

    int pair(int first, int second) {
        Person one = person(first);
        Person two = person(second);
        argument(first != second);
        state(one.partner == null && two.partner == null);
        return change(() -> {
            one.partner = second;
            two.partner = first;
            return paired() / 2;
        });
    }

    private int paired() {
        return (int) world.people.values().stream().filter(person -> person.partner != null).count();
    }

    int unpair(int dancer) {
        Person one = person(dancer);
        state(one.partner != null);
        return change(() -> {
            int other = one.partner;
            one.partner = null;
            world.people.get(other).partner = null;
            return other;
        });
    }

    int renewNails(int dancer) {
        Person person = person(dancer);
        return change(() -> {
            int old = person.nails;
            person.nails = 20;
            return old;
        });
    }

    int dancers() {
        return world.people.size();
    }

    boolean isPresent(int dancer) {
        return world.people.containsKey(dancer);
    }

    int column(int dancer) {
        return person(dancer).x;
    }

    int row(int dancer) {
        return person(dancer).y;
    }

    int nails(int dancer) {
        return person(dancer).nails;
    }

    int partner(int dancer) {
        Integer partner = person(dancer).partner;
        element(partner != null);
        return partner;
    }

    int dancerByNails(int rank) {
        List<Integer> sorted = new ArrayList<>(world.people.keySet());
        sorted.sort((a, b) -> nails(a) != nails(b) ? nails(a) - nails(b) : a - b);
        element(0 <= rank && rank < sorted.size());
        return sorted.get(rank);
    }

    int addMove(int figure, char move) {
        index(0 <= figure && figure < 6);
        argument("UDLRS".indexOf(move) >= 0);
        state(world.figures.get(figure).length() < 12);
        return change(() -> {
            world.figures.set(figure, world.figures.get(figure) + move);
            return world.figures.get(figure).length();
        });
    }

    int clearFigure(int figure) {
        index(0 <= figure && figure < 6);
        return change(() -> world.figures.set(figure, "").length());
    }

    int figureLength(int figure) {
        index(0 <= figure && figure < 6);
        return world.figures.get(figure).length();
    }

    int perform(int figure, int dancer) {
        index(0 <= figure && figure < 6);
        person(dancer);
        World after = world.copy();
        supported(firstBlocked(after, figure, dancer) < 0);
        return change(() -> {
            int lost = after.lost - world.lost;
            world = after;
            return lost;
        });
    }

    int blockedBeat(int figure, int dancer) {
        index(0 <= figure && figure < 6);
        person(dancer);
        int beat = firstBlocked(world.copy(), figure, dancer);
        element(beat >= 0);
        return beat;
    }

    /** Performs the figure in a world as far as it goes; answers -1 if that is to its end. */
    private static int firstBlocked(World world, int figure, int dancer) {
        String moves = world.figures.get(figure);
        for (int beat = 0; beat < moves.length(); beat++) {
            Map<Integer, String> goals = new LinkedHashMap<>();
            Integer partner = world.people.get(dancer).partner;
            char move = moves.charAt(beat);
            char mirrored = move == 'L' ? 'R' : move == 'R' ? 'L' : move;
            goals.put(dancer, moved(world.people.get(dancer).cell(), move));
            if (partner != null) {
                goals.put(partner, moved(world.people.get(partner).cell(), mirrored));
            }
            if (isBlocked(world, goals, move != 'S')) {
                return beat;
            }
            for (Integer number : goals.keySet()) {
                Person person = world.people.get(number);
                person.x = goals.get(number).charAt(0) - '0';
                person.y = goals.get(number).charAt(2) - '0';
                person.nails -= move == 'S' ? 0 : 1;
                world.lost += move == 'S' ? 0 : 1;
            }
        }
        return -1;
    }

    private static boolean isBlocked(World world, Map<Integer, String> goals, boolean moving) {
        for (Integer number : goals.keySet()) {
            String goal = goals.get(number);
            if (moving && world.people.get(number).nails == 0 || goal == null
                    || world.props.contains(goal)) {
                return true;
            }
            for (Map.Entry<Integer, Person> other : world.people.entrySet()) {
                boolean there = other.getValue().cell().equals(goal);
                if (there && !goals.containsKey(other.getKey())) {
                    return true;
                }
                boolean exchange = there && !other.getKey().equals(number)
                        && world.people.get(number).cell().equals(goals.get(other.getKey()));
                if (exchange) {
                    return true;
                }
            }
        }
        return new HashSet<>(goals.values()).size() < goals.size();
    }

    private Integer wayLength(Person person, int x, int y) {
        Set<String> closed = new HashSet<>(world.props);
        for (Person other : world.people.values()) {
            if (other != person) {
                closed.add(other.cell());
            }
        }
        return lengths(person.x, person.y, closed).get(x + "," + y);
    }

    int distance(int dancer, int x, int y) {
        Person person = person(dancer);
        index(onStage(x, y));
        Integer length = wayLength(person, x, y);
        element(length != null);
        return length;
    }

    int walk(int dancer, int x, int y) {
        Person person = person(dancer);
        index(onStage(x, y));
        Integer length = wayLength(person, x, y);
        supported(length != null);
        state(person.nails >= length);
        return change(() -> {
            person.x = x;
            person.y = y;
            person.nails -= length;
            world.lost += length;
            return person.nails;
        });
    }

    int addExit(int x, int y) {
        index(onStage(x, y));
        state(!world.exits.contains(x + "," + y) && world.exits.size() < 6);
        return change(() -> {
            world.exits.add(x + "," + y);
            return world.exits.size() - 1;
        });
    }

    int removeExit(int exit) {
        index(0 <= exit && exit < world.exits.size());
        return change(() -> {
            world.exits.remove(exit);
            return world.exits.size();
        });
    }

    int exits() {
        return world.exits.size();
    }

    int exitDistance(int dancer, int exit) {
        Person person = person(dancer);
        index(0 <= exit && exit < world.exits.size());
        Integer length = lengths(person.x, person.y, world.props).get(world.exits.get(exit));
        element(length != null);
        return length;
    }

    /** The best plan: the cost and then the exits of the dancers in order; null if there is none. */
    private List<Integer> bestPlan() {
        List<Map<String, Integer>> lengths = new ArrayList<>();
        for (Person person : world.people.values()) {
            lengths.add(lengths(person.x, person.y, world.props));
        }
        if (lengths.size() > world.exits.size()) {
            return null;
        }
        List<List<Integer>> plans = new ArrayList<>();
        List<Integer> begun = new ArrayList<>();
        begun.add(0);
        addPlans(lengths, begun, plans);
        List<Integer> best = null;
        for (List<Integer> plan : plans) {
            if (best == null || plan.get(0) < best.get(0)) {
                best = plan;
            }
        }
        return best;
    }

    /** Adds all plans that go on as begun, in the order of the dancers' exits. */
    private void addPlans(List<Map<String, Integer>> lengths, List<Integer> begun, List<List<Integer>> plans) {
        int placed = begun.size() - 1;
        if (placed == lengths.size()) {
            plans.add(begun);
            return;
        }
        for (int exit = 0; exit < world.exits.size(); exit++) {
            Integer length = lengths.get(placed).get(world.exits.get(exit));
            if (length != null && !begun.subList(1, begun.size()).contains(exit)) {
                List<Integer> longer = new ArrayList<>(begun);
                longer.set(0, begun.get(0) + length);
                longer.add(exit);
                addPlans(lengths, longer, plans);
            }
        }
    }

    int exitCost() {
        List<Integer> plan = bestPlan();
        element(plan != null);
        return plan.get(0);
    }

    int exitOf(int dancer) {
        person(dancer);
        List<Integer> plan = bestPlan();
        element(plan != null);
        return plan.get(1 + world.people.headMap(dancer).size());
    }

    int leaveAll() {
        state(!world.people.isEmpty());
        List<Integer> plan = bestPlan();
        supported(plan != null);
        return change(() -> {
            world.people.clear();
            return plan.get(0);
        });
    }

    boolean isMirrored() {
        return world.people.values().stream()
                .allMatch(person -> personAt((7 - person.x) + "," + person.y) != null);
    }

    int lostNails() {
        return world.lost;
    }

    double meanNails() {
        if (world.people.isEmpty()) {
            throw new ArithmeticException();
        }
        return (double) world.people.values().stream().mapToInt(person -> person.nails).sum()
                / (double) world.people.size();
    }

    float pairedShare() {
        if (world.people.isEmpty()) {
            throw new ArithmeticException();
        }
        return (float) paired() / (float) world.people.size();
    }

    int writeRow(int y) {
        index(0 <= y && y < 8);
        StringBuilder text = new StringBuilder();
        for (int x = 0; x < 8; x++) {
            String sign = world.props.contains(x + "," + y) ? "#" : ".";
            for (Map.Entry<Integer, Person> entry : world.people.entrySet()) {
                if (entry.getValue().cell().equals(x + "," + y)) {
                    String digits = entry.getKey().toString();
                    sign = digits.substring(digits.length() - 1);
                }
            }
            text.append(sign);
        }
        line = text.toString();
        return line.length();
    }

    int writeFigure(int figure) {
        index(0 <= figure && figure < 6);
        Matcher runs = Pattern.compile("(.)\\1*").matcher(world.figures.get(figure));
        line = runs.replaceAll(run -> (run.group().length() > 1 ? run.group().length() : "") + run.group(1));
        return line.length();
    }

    char charAt(int index) {
        index(0 <= index && index < line.length());
        return line.charAt(index);
    }

    int type(char character) {
        state(buffer.length() < 60);
        buffer += character;
        return buffer.length();
    }

    int run() {
        String text = buffer;
        buffer = "";
        if (!PROGRAM.matcher(text).matches()) {
            error = errorPositionOf(text);
            throw new IllegalArgumentException();
        }
        World old = world.copy();
        int number = 0;
        running = true;
        for (String command : text.split(";")) {
            try {
                execute(command);
            } catch (RuntimeException e) {
                running = false;
                world = old;
                failure = number;
                throw new UnsupportedOperationException();
            }
            number++;
        }
        running = false;
        past.addLast(old);
        if (past.size() > 8) {
            past.removeFirst();
        }
        return number;
    }

    /** The length of the longest beginning with which a program can begin. */
    private static int errorPositionOf(String text) {
        for (int length = text.length(); length > 0; length--) {
            Matcher matcher = PROGRAM.matcher(text.substring(0, length));
            if (matcher.matches() || matcher.hitEnd()) {
                return length;
            }
        }
        return 0;
    }

    private void execute(String command) {
        Matcher matcher = COMMAND.matcher(command);
        if (!matcher.matches()) {
            throw new AssertionError(command);
        }
        List<String> parts = new ArrayList<>();
        for (int group = 1; group <= matcher.groupCount(); group++) {
            if (matcher.group(group) != null) {
                parts.add(matcher.group(group));
            }
        }
        if (command.startsWith("figure")) {
            int figure = Integer.parseInt(parts.get(0));
            clearFigure(figure);
            for (char move : parts.get(1).toCharArray()) {
                addMove(figure, move);
            }
            return;
        }
        List<Integer> numbers = new ArrayList<>();
        for (String part : parts) {
            numbers.add(Integer.valueOf(part));
        }
        execute(command.split(" ")[0], numbers);
    }

    private void execute(String word, List<Integer> numbers) {
        switch (word) {
            case "prop" -> addProp(numbers.get(0), numbers.get(1));
            case "dancer" -> addDancer(numbers.get(0), numbers.get(1), numbers.get(2));
            case "pair" -> pair(numbers.get(0), numbers.get(1));
            case "perform" -> perform(numbers.get(0), numbers.get(1));
            case "walk" -> walk(numbers.get(0), numbers.get(1), numbers.get(2));
            case "exit" -> addExit(numbers.get(0), numbers.get(1));
            case "nails" -> renewNails(numbers.get(0));
            case "leave" -> leaveAll();
            default -> throw new AssertionError(word);
        }
    }

    int errorPosition() {
        element(error != null);
        return error;
    }

    int failedCommand() {
        element(failure != null);
        return failure;
    }

    int undo() {
        state(!past.isEmpty());
        world = past.removeLast();
        return past.size();
    }

    int save() {
        saved = world.copy();
        return dancers();
    }

    int restore() {
        state(saved != null);
        world = saved.copy();
        past.clear();
        return dancers();
    }
}
