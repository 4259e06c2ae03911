import java.util.ArrayDeque;
import java.util.ArrayList;
import java.util.Comparator;
import java.util.Deque;
import java.util.List;
import java.util.NoSuchElementException;
import java.util.function.BiPredicate;
import java.util.regex.Matcher;
import java.util.regex.Pattern;

/** The document once more, written slowly and with the Java library, to compare with in random runs. */
public final class Model {
    private static final String RANKS = "mapcj";
    private static final String[] FORMS = {
        "spoon # #", "spoon # ##", "propose #", "propose ##", "move #", "move ##", "amend #", "amend ##",
        "amend -#", "amend -##", "postpone", "close", "adjourn", "speak #", "vote", "spill ## #", "spill ## ##",
        "mop ##", "sugar # #",
    };

    private static final class Spoon {
        int weight;
        int stance;
        int lumps = 5;
        int speeches;
    }

    private static final class Proposal {
        int id;
        int position;
    }

    private static final class Room {
        List<Spoon> spoons = new ArrayList<>();
        List<Proposal> list = new ArrayList<>();
        String table = "";
        Proposal main;
        int change;
        boolean closed;
        List<Integer> minutes = new ArrayList<>();
        int nextId;
        int sittings;
        int votes;
        int adopted;
        boolean[][] wet = new boolean[8][8];

        Room copy() {
            Room copy = new Room();
            for (Spoon spoon : spoons) {
                Spoon twin = new Spoon();
                twin.weight = spoon.weight;
                twin.stance = spoon.stance;
                twin.lumps = spoon.lumps;
                twin.speeches = spoon.speeches;
                copy.spoons.add(twin);
            }
            for (Proposal proposal : list) {
                Proposal twin = new Proposal();
                twin.id = proposal.id;
                twin.position = proposal.position;
                copy.list.add(twin);
                if (proposal == main) {
                    copy.main = twin;
                }
            }
            copy.table = table;
            copy.change = change;
            copy.closed = closed;
            copy.minutes.addAll(minutes);
            copy.nextId = nextId;
            copy.sittings = sittings;
            copy.votes = votes;
            copy.adopted = adopted;
            for (int row = 0; row < 8; row++) {
                copy.wet[row] = wet[row].clone();
            }
            return copy;
        }
    }

    private Room room = new Room();
    private Room snapshot;
    private final Deque<Room> past = new ArrayDeque<>();
    private boolean inScript;
    private String buffer = "";
    private String output = "";
    private Integer error;
    private Integer failed;

    private void keepPast() {
        if (!inScript) {
            past.push(room.copy());
            if (past.size() > 8) {
                past.removeLast();
            }
        }
    }

    private static void index(boolean good) {
        if (!good) {
            throw new IndexOutOfBoundsException();
        }
    }

    private static void argument(boolean good) {
        if (!good) {
            throw new IllegalArgumentException();
        }
    }

    private static void state(boolean good) {
        if (!good) {
            throw new IllegalStateException();
        }
    }

    private static void element(boolean good) {
        if (!good) {
            throw new NoSuchElementException();
        }
    }

    private static void operation(boolean good) {
        if (!good) {
            throw new UnsupportedOperationException();
        }
    }

    private Spoon spoonAt(int spoon) {
        index(spoon >= 0 && spoon < room.spoons.size());
        return room.spoons.get(spoon);
    }

    private Proposal onList(int id) {
        for (Proposal proposal : room.list) {
            if (proposal.id == id) {
                return proposal;
            }
        }
        throw new NoSuchElementException();
    }

    public int addSpoon(int weight, int stance) {
        argument(weight >= 1 && weight <= 9 && stance >= 0 && stance <= 99);
        state(room.spoons.size() < 8);
        keepPast();
        Spoon spoon = new Spoon();
        spoon.weight = weight;
        spoon.stance = stance;
        room.spoons.add(spoon);
        return room.spoons.size() - 1;
    }

    public int propose(int position) {
        argument(position >= 0 && position <= 99);
        state(room.list.size() < 6);
        keepPast();
        Proposal proposal = new Proposal();
        proposal.id = room.nextId++;
        proposal.position = position;
        room.list.add(proposal);
        return proposal.id;
    }

    private boolean movable(char kind) {
        if (room.table.isEmpty()) {
            return kind == 'm' || kind == 'j';
        }
        if (kind == 'a' && room.closed) {
            return false;
        }
        char top = room.table.charAt(room.table.length() - 1);
        return RANKS.indexOf(kind) > RANKS.indexOf(top);
    }

    private int move(char kind) {
        operation(movable(kind));
        keepPast();
        room.table += kind;
        return room.table.length();
    }

    public int moveMain(int proposal) {
        Proposal subject = onList(proposal);
        int count = move('m');
        room.main = subject;
        return count;
    }

    public int moveAmendment(int change) {
        argument(change >= -20 && change <= 20);
        int count = move('a');
        room.change = change;
        return count;
    }

    public int movePostponement() {
        return move('p');
    }

    public int moveClosure() {
        return move('c');
    }

    public int moveAdjournment() {
        return move('j');
    }

    public int speak(int spoon) {
        Spoon speaker = spoonAt(spoon);
        state(!room.table.isEmpty() && !room.closed && speaker.speeches < 2);
        operation(speaker.lumps > 0);
        keepPast();
        speaker.lumps--;
        return ++speaker.speeches;
    }

    private void emptyTable() {
        room.table = "";
        room.closed = false;
        for (Spoon spoon : room.spoons) {
            spoon.speeches = 0;
        }
    }

    private int amended() {
        int sum = room.main.position + room.change;
        return sum < 0 ? 0 : sum > 99 ? 99 : sum;
    }

    private boolean wantsMain(Spoon spoon) {
        return Math.abs(room.main.position - spoon.stance) <= 25;
    }

    private boolean yes(Spoon spoon) {
        switch (room.table.charAt(room.table.length() - 1)) {
            case 'm':
                return wantsMain(spoon);
            case 'a':
                return Math.abs(amended() - spoon.stance) < Math.abs(room.main.position - spoon.stance);
            case 'p':
                return !wantsMain(spoon);
            case 'c':
                return spoon.speeches >= 1;
            default:
                return spoon.lumps < 3;
        }
    }

    public boolean vote() {
        boolean passes = wouldPass();
        keepPast();
        room.votes++;
        room.adopted += passes ? 1 : 0;
        char kind = room.table.charAt(room.table.length() - 1);
        if (kind == 'm' && passes) {
            room.minutes.add(room.main.id);
            room.spoons.stream().filter(this::yes).forEach(spoon -> spoon.lumps += 2);
        }
        room.table = room.table.substring(0, room.table.length() - 1);
        if (kind == 'm') {
            room.list.remove(room.main);
        } else if (kind == 'a' && passes) {
            room.main.position = amended();
        } else if (kind == 'p' && passes) {
            room.list.remove(room.main);
            room.list.add(room.main);
            emptyTable();
        } else if (kind == 'c' && passes) {
            room.closed = true;
        } else if (kind == 'j' && passes) {
            room.sittings++;
            emptyTable();
        }
        if (room.table.isEmpty()) {
            emptyTable();
        }
        return passes;
    }

    public int spill(int row, int column, int cells) {
        index(row >= 0 && row < 8 && column >= 0 && column < 8);
        argument(cells >= 1 && cells <= 30);
        keepPast();
        List<int[]> dry = new ArrayList<>();
        for (int r = 0; r < 8; r++) {
            for (int c = 0; c < 8; c++) {
                if (!room.wet[r][c]) {
                    dry.add(new int[] {Math.abs(r - row) + Math.abs(c - column), r, c});
                }
            }
        }
        dry.sort(Comparator.comparingInt((int[] cell) -> cell[0]).thenComparingInt(cell -> cell[1])
                .thenComparingInt(cell -> cell[2]));
        for (int i = 0; i < cells && i < dry.size(); i++) {
            room.wet[dry.get(i)[1]][dry.get(i)[2]] = true;
        }
        if (largestPuddle() >= 20) {
            room.sittings++;
            emptyTable();
        }
        return wetCells();
    }

    private int flood(boolean[][] wet, int row, int column) {
        if (row < 0 || row > 7 || column < 0 || column > 7 || !wet[row][column]) {
            return 0;
        }
        wet[row][column] = false;
        return 1 + flood(wet, row - 1, column) + flood(wet, row + 1, column)
                + flood(wet, row, column - 1) + flood(wet, row, column + 1);
    }

    public int mop(int row, int column) {
        state(isWet(row, column));
        keepPast();
        return flood(room.wet, row, column);
    }

    public int giveSugar(int spoon, int lumps) {
        Spoon glad = spoonAt(spoon);
        argument(lumps >= 1 && lumps <= 9);
        keepPast();
        return glad.lumps += lumps;
    }

    public int spoonCount() {
        return room.spoons.size();
    }

    public int weight(int spoon) {
        return spoonAt(spoon).weight;
    }

    public int stance(int spoon) {
        return spoonAt(spoon).stance;
    }

    public int sugar(int spoon) {
        return spoonAt(spoon).lumps;
    }

    public int speeches(int spoon) {
        return spoonAt(spoon).speeches;
    }

    public int proposalCount() {
        return room.list.size();
    }

    public int proposalAt(int place) {
        element(place >= 0 && place < room.list.size());
        return room.list.get(place).id;
    }

    public int position(int proposal) {
        return onList(proposal).position;
    }

    public int motionCount() {
        return room.table.length();
    }

    public char motionKind(int place) {
        element(place >= 0 && place < room.table.length());
        return room.table.charAt(place);
    }

    public int amendment() {
        element(room.table.contains("a"));
        return room.change;
    }

    public int mainProposal() {
        element(room.table.contains("m"));
        return room.main.id;
    }

    public boolean isClosed() {
        return room.closed;
    }

    public boolean canMove(char kind) {
        argument(kind == 'm' || kind == 'a' || kind == 'p' || kind == 'c' || kind == 'j');
        return movable(kind) && (kind != 'm' || !room.list.isEmpty());
    }

    public int yesVotes() {
        element(!room.table.isEmpty());
        return room.spoons.stream().filter(this::yes).mapToInt(spoon -> spoon.weight).sum();
    }

    public boolean wouldPass() {
        int yes = yesVotes();
        int all = room.spoons.stream().mapToInt(spoon -> spoon.weight).sum();
        return room.table.endsWith("c") ? 3 * yes >= 2 * all : 2 * yes > all;
    }

    public boolean votesYes(int spoon) {
        Spoon voter = spoonAt(spoon);
        element(!room.table.isEmpty());
        return yes(voter);
    }

    public int support(int proposal, int other) {
        int here = onList(proposal).position;
        int there = onList(other).position;
        int sum = 0;
        for (Spoon spoon : room.spoons) {
            sum += Math.abs(spoon.stance - here) < Math.abs(spoon.stance - there) ? spoon.weight : 0;
        }
        return sum;
    }

    private List<Integer> best;
    private int bestSum;

    /** Tries the orders in the sequence of ids, so that the first one of the best is the one that is due. */
    private void tryOrders(List<Integer> order, List<Integer> left) {
        if (left.isEmpty()) {
            int sum = 0;
            for (int later = 0; later < order.size(); later++) {
                for (int earlier = 0; earlier < later; earlier++) {
                    sum += support(order.get(later), order.get(earlier));
                }
            }
            if (best == null || sum < bestSum) {
                best = List.copyOf(order);
                bestSum = sum;
            }
        }
        for (int i = 0; i < left.size(); i++) {
            List<Integer> rest = new ArrayList<>(left);
            List<Integer> longer = new ArrayList<>(order);
            longer.add(rest.remove(i));
            tryOrders(longer, rest);
        }
    }

    private void findBest() {
        List<Integer> ids = new ArrayList<>();
        room.list.forEach(proposal -> ids.add(proposal.id));
        ids.sort(Comparator.naturalOrder());
        best = null;
        tryOrders(List.of(), ids);
    }

    public int fewestDisagreements() {
        findBest();
        return bestSum;
    }

    public int fewestDisagreementsByOrders() {
        return fewestDisagreements();
    }

    public int bestOrder(int place) {
        element(place >= 0 && place < room.list.size());
        findBest();
        return best.get(place);
    }

    /** The top is the smallest set that holds a proposal and all that its members do not beat; the least of those. */
    public boolean isInTop(int proposal) {
        onList(proposal);
        List<Integer> top = null;
        BiPredicate<Integer, Integer> beats = (one, other) -> support(one, other) > support(other, one);
        for (Proposal start : room.list) {
            List<Integer> set = new ArrayList<>(List.of(start.id));
            for (int i = 0; i < set.size(); i++) {
                for (Proposal other : room.list) {
                    if (!set.contains(other.id) && !beats.test(set.get(i), other.id)) {
                        set.add(other.id);
                    }
                }
            }
            if (top == null || set.size() < top.size()) {
                top = set;
            }
        }
        return top.contains(proposal);
    }

    public boolean isInTopBySets(int proposal) {
        return isInTop(proposal);
    }

    public boolean isWet(int row, int column) {
        index(row >= 0 && row < 8 && column >= 0 && column < 8);
        return room.wet[row][column];
    }

    public int wetCells() {
        int count = 0;
        for (int cell = 0; cell < 64; cell++) {
            count += room.wet[cell / 8][cell % 8] ? 1 : 0;
        }
        return count;
    }

    public int puddle(int row, int column) {
        isWet(row, column);
        return flood(room.copy().wet, row, column);
    }

    public int puddleByGroups(int row, int column) {
        return puddle(row, column);
    }

    private List<Integer> puddles() {
        List<Integer> sizes = new ArrayList<>();
        boolean[][] wet = room.copy().wet;
        for (int cell = 0; cell < 64; cell++) {
            int size = flood(wet, cell / 8, cell % 8);
            if (size > 0) {
                sizes.add(size);
            }
        }
        return sizes;
    }

    public int largestPuddle() {
        return puddles().stream().mapToInt(size -> size).max().orElse(0);
    }

    public int puddleCount() {
        return puddles().size();
    }

    public int spoonBySugar(int rank) {
        element(rank >= 0 && rank < room.spoons.size());
        List<Spoon> sorted = new ArrayList<>(room.spoons);
        sorted.sort(Comparator.comparingInt((Spoon spoon) -> -spoon.lumps).thenComparingInt(spoon -> -spoon.weight));
        return room.spoons.indexOf(sorted.get(rank));
    }

    public int minutesCount() {
        return room.minutes.size();
    }

    public int minute(int place) {
        element(place >= 0 && place < room.minutes.size() && room.minutes.size() - place <= 20);
        return room.minutes.get(place);
    }

    public int sittings() {
        return room.sittings;
    }

    public int sugarTotal() {
        return room.spoons.stream().mapToInt(spoon -> spoon.lumps).sum();
    }

    public int sugarByAccounts() {
        return sugarTotal();
    }

    public double meanStance() {
        if (room.spoons.isEmpty()) {
            throw new ArithmeticException();
        }
        int sum = room.spoons.stream().mapToInt(spoon -> spoon.stance).sum();
        return (double) sum / (double) room.spoons.size();
    }

    public float adoptedShare() {
        if (room.votes == 0) {
            throw new ArithmeticException();
        }
        return (float) room.adopted / (float) room.votes;
    }

    public boolean isConsistent() {
        return true;
    }

    public int renderTable() {
        output = room.table.replace("m", "m" + (room.main == null ? "" : room.main.id));
        output = output.replace("a", "a" + room.change) + (room.closed ? "!" : "");
        return output.length();
    }

    public int renderList() {
        List<String> parts = new ArrayList<>();
        room.list.forEach(proposal -> parts.add(proposal.id + "@" + proposal.position));
        output = String.join(",", parts);
        return output.length();
    }

    public char outputAt(int index) {
        index(index >= 0 && index < output.length());
        return output.charAt(index);
    }

    public int type(char character) {
        argument(character >= 32 && character <= 126);
        state(buffer.length() < 60);
        buffer += character;
        return buffer.length();
    }

    /** Keeps all places in all forms at which the text can be; at the end of a form, a semicolon begins each anew. */
    private static Integer errorOf(String script) {
        List<String> rests = List.of(FORMS);
        for (int i = 0; i < script.length(); i++) {
            char character = script.charAt(i);
            List<String> next = new ArrayList<>();
            for (String rest : rests) {
                if (rest.isEmpty() && character == ';') {
                    next.addAll(List.of(FORMS));
                } else if (!rest.isEmpty() && (rest.charAt(0) == character && character != '#'
                        || rest.charAt(0) == '#' && character >= '0' && character <= '9')) {
                    next.add(rest.substring(1));
                }
            }
            if (next.isEmpty()) {
                return i;
            }
            rests = next;
        }
        return rests.contains("") ? null : Integer.valueOf(script.length());
    }

    private void command(String text) {
        List<Integer> numbers = new ArrayList<>();
        String pattern = text.startsWith("spill") ? "(?<=l |l \\d)\\d|\\d+" : text.startsWith("mop") ? "\\d" : "-?\\d+";
        Matcher matcher = Pattern.compile(pattern).matcher(text);
        while (matcher.find()) {
            numbers.add(Integer.valueOf(matcher.group()));
        }
        switch (text.split(" ")[0]) {
            case "spoon": addSpoon(numbers.get(0), numbers.get(1)); break;
            case "propose": propose(numbers.get(0)); break;
            case "move": moveMain(numbers.get(0)); break;
            case "amend": moveAmendment(numbers.get(0)); break;
            case "postpone": movePostponement(); break;
            case "close": moveClosure(); break;
            case "adjourn": moveAdjournment(); break;
            case "speak": speak(numbers.get(0)); break;
            case "vote": vote(); break;
            case "spill": spill(numbers.get(0), numbers.get(1), numbers.get(2)); break;
            case "mop": mop(numbers.get(0), numbers.get(1)); break;
            case "sugar": giveSugar(numbers.get(0), numbers.get(1)); break;
            default: throw new AssertionError(text);
        }
    }

    public int runScript() {
        String script = buffer;
        buffer = "";
        Integer wrong = errorOf(script);
        if (wrong != null) {
            error = wrong;
            throw new IllegalArgumentException();
        }
        Room before = room.copy();
        String[] commands = script.split(";");
        inScript = true;
        for (int i = 0; i < commands.length; i++) {
            try {
                command(commands[i]);
            } catch (RuntimeException thrown) {
                room = before;
                failed = i;
                inScript = false;
                throw new IllegalStateException();
            }
        }
        inScript = false;
        Room after = room;
        room = before;
        keepPast();
        room = after;
        return commands.length;
    }

    public int errorPosition() {
        element(error != null);
        return error;
    }

    public int failedCommand() {
        element(failed != null);
        return failed;
    }

    public int undo() {
        state(!past.isEmpty());
        room = past.pop();
        return past.size();
    }

    public int save() {
        snapshot = room.copy();
        return room.spoons.size();
    }

    public int restore() {
        state(snapshot != null);
        room = snapshot.copy();
        past.clear();
        return room.spoons.size();
    }
}
