import java.util.NoSuchElementException;

/** A salon in which teaspoons argue. ../shared/DOC.md says what each call answers. */
public final class TeaspoonSalon {
    private static final int NONE = -1;
    private static final int FIRST_CHARACTER = 32;
    private static final int LAST_CHARACTER = 126;

    private final State state;
    private final State draft;
    private final State snapshot;
    private final History history;
    private final Ranking ranking;
    private final Script script;
    private final StringBuilder output;
    private boolean hasSnapshot;
    private int latestError;
    private int latestFailure;

    public TeaspoonSalon() {
        state = new State();
        draft = new State();
        snapshot = new State();
        history = new History();
        ranking = new Ranking();
        script = new Script();
        output = new StringBuilder();
        hasSnapshot = false;
        latestError = NONE;
        latestFailure = NONE;
    }

    // Changes

    public int addSpoon(int weight, int stance) throws IllegalArgumentException, IllegalStateException {
        return change(Command.SPOON, weight, stance, 0);
    }

    public int propose(int position) throws IllegalArgumentException, IllegalStateException {
        return change(Command.PROPOSE, position, 0, 0);
    }

    public int moveMain(int proposal) throws NoSuchElementException, UnsupportedOperationException {
        return change(Command.MOVE, proposal, 0, 0);
    }

    public int moveAmendment(int change) throws IllegalArgumentException, UnsupportedOperationException {
        return change(Command.AMEND, change, 0, 0);
    }

    public int movePostponement() throws UnsupportedOperationException {
        return change(Command.POSTPONE, 0, 0, 0);
    }

    public int moveClosure() throws UnsupportedOperationException {
        return change(Command.CLOSE, 0, 0, 0);
    }

    public int moveAdjournment() throws UnsupportedOperationException {
        return change(Command.ADJOURN, 0, 0, 0);
    }

    public int speak(int spoon)
            throws IndexOutOfBoundsException, IllegalStateException, UnsupportedOperationException {
        return change(Command.SPEAK, spoon, 0, 0);
    }

    public boolean vote() throws NoSuchElementException {
        return change(Command.VOTE, 0, 0, 0) == State.ADOPTED;
    }

    public int spill(int row, int column, int cells) throws IndexOutOfBoundsException, IllegalArgumentException {
        return change(Command.SPILL, row, column, cells);
    }

    public int mop(int row, int column) throws IndexOutOfBoundsException, IllegalStateException {
        return change(Command.MOP, row, column, 0);
    }

    public int giveSugar(int spoon, int lumps) throws IndexOutOfBoundsException, IllegalArgumentException {
        return change(Command.SUGAR, spoon, lumps, 0);
    }

    // Spoons

    public int spoonCount() {
        return state.spoons.count;
    }

    public int weight(int spoon) throws IndexOutOfBoundsException {
        checkSpoon(spoon);
        return state.spoons.weights[spoon];
    }

    public int stance(int spoon) throws IndexOutOfBoundsException {
        checkSpoon(spoon);
        return state.spoons.stances[spoon];
    }

    public int sugar(int spoon) throws IndexOutOfBoundsException {
        checkSpoon(spoon);
        return state.spoons.lumps[spoon];
    }

    public int speeches(int spoon) throws IndexOutOfBoundsException {
        checkSpoon(spoon);
        return state.spoons.spoken[spoon];
    }

    // Proposals

    public int proposalCount() {
        return state.proposals.count;
    }

    public int proposalAt(int place) throws NoSuchElementException {
        checkPlaceOnList(place);
        return state.proposals.ids[place];
    }

    public int position(int proposal) throws NoSuchElementException {
        checkOnList(proposal);
        return state.proposals.positionOf(proposal);
    }

    // The table

    public int motionCount() {
        return state.table.count;
    }

    public char motionKind(int place) throws NoSuchElementException {
        if (place < 0 || place >= state.table.count) {
            throw new NoSuchElementException("no motion lies at this place");
        }
        return state.table.letterAt(place);
    }

    public int amendment() throws NoSuchElementException {
        if (!state.table.holds(Table.AMENDMENT)) {
            throw new NoSuchElementException("no amendment lies on the table");
        }
        return state.table.amendingChange;
    }

    public int mainProposal() throws NoSuchElementException {
        if (!state.table.holds(Table.MAIN)) {
            throw new NoSuchElementException("no main motion lies on the table");
        }
        return state.table.mainId;
    }

    public boolean isClosed() {
        return state.table.closed;
    }

    public boolean canMove(char kind) throws IllegalArgumentException {
        int rank = Table.KINDS.indexOf(kind);
        if (rank < 0) {
            throw new IllegalArgumentException("there is no such kind of motion");
        }
        return state.table.admits(rank) && (rank != Table.MAIN || state.proposals.count > 0);
    }

    // Votes

    public int yesVotes() throws NoSuchElementException {
        checkMotion();
        return state.yesWeight();
    }

    public boolean wouldPass() throws NoSuchElementException {
        checkMotion();
        return state.isEnough(state.yesWeight());
    }

    public boolean votesYes(int spoon) throws IndexOutOfBoundsException, NoSuchElementException {
        checkSpoon(spoon);
        checkMotion();
        return state.saysYes(spoon, state.mainPosition());
    }

    // Orders and the top

    public int support(int proposal, int other) throws NoSuchElementException {
        checkOnList(proposal);
        checkOnList(other);
        return state.spoons.preferring(state.proposals.positionOf(proposal), state.proposals.positionOf(other));
    }

    public int fewestDisagreements() {
        ranking.survey(state);
        return ranking.fewestByTable();
    }

    public int fewestDisagreementsByOrders() {
        ranking.survey(state);
        return ranking.fewestByTrying();
    }

    public int bestOrder(int place) throws NoSuchElementException {
        checkPlaceOnList(place);
        ranking.survey(state);
        return ranking.idInBestOrder(place, state.proposals);
    }

    public boolean isInTop(int proposal) throws NoSuchElementException {
        checkOnList(proposal);
        ranking.survey(state);
        return ranking.leadsToAll(state.proposals.placeOf(proposal));
    }

    public boolean isInTopBySets(int proposal) throws NoSuchElementException {
        checkOnList(proposal);
        ranking.survey(state);
        return Ranking.isIn(state.proposals.placeOf(proposal), ranking.smallestTop());
    }

    // The cloth

    public boolean isWet(int row, int column) throws IndexOutOfBoundsException {
        checkCell(row, column);
        return state.cloth.wetAt(row, column) != 0;
    }

    public int wetCells() {
        return Long.bitCount(state.cloth.wet);
    }

    public int puddle(int row, int column) throws IndexOutOfBoundsException {
        checkCell(row, column);
        return Long.bitCount(state.cloth.walkFrom(Cloth.cell(row, column)));
    }

    public int puddleByGroups(int row, int column) throws IndexOutOfBoundsException {
        checkCell(row, column);
        state.cloth.joinGroups();
        return Long.bitCount(state.cloth.groupOf(Cloth.cell(row, column)));
    }

    public int largestPuddle() {
        return state.cloth.largestSize();
    }

    public int puddleCount() {
        return state.cloth.countPuddles();
    }

    // Rankings, minutes and accounts

    public int spoonBySugar(int rank) throws NoSuchElementException {
        if (rank < 0 || rank >= state.spoons.count) {
            throw new NoSuchElementException("there is no such rank");
        }
        return state.spoons.atSugarRank(rank);
    }

    public int minutesCount() {
        return state.minutesWritten;
    }

    public int minute(int place) throws NoSuchElementException {
        if (!state.keepsMinute(place)) {
            throw new NoSuchElementException("the minutes keep no such place");
        }
        return state.minuteAt(place);
    }

    public int sittings() {
        return state.sittingsEnded;
    }

    public int sugarTotal() {
        return state.spoons.countedLumps();
    }

    public int sugarByAccounts() {
        return state.spoons.accountedLumps();
    }

    public double meanStance() throws ArithmeticException {
        int count = state.spoons.count;
        if (count == 0) {
            throw new ArithmeticException("there are no spoons");
        }
        return (double) state.spoons.stanceSum() / (double) count;
    }

    public float adoptedShare() throws ArithmeticException {
        int votes = state.votesTaken;
        if (votes == 0) {
            throw new ArithmeticException("there was no vote");
        }
        return (float) state.votesAdopted / (float) votes;
    }

    public boolean isConsistent() {
        ranking.survey(state);
        return ranking.fewestByTable() == ranking.fewestByTrying()
                && ranking.topWaysAgree()
                && state.cloth.puddleWaysAgree()
                && state.spoons.countedLumps() == state.spoons.accountedLumps();
    }

    // The output text

    public int renderTable() {
        output.setLength(0);
        Table table = state.table;
        for (int place = 0; place < table.count; place++) {
            output.append(table.letterAt(place));
            if (table.rankAt(place) == Table.MAIN) {
                output.append(table.mainId);
            } else if (table.rankAt(place) == Table.AMENDMENT) {
                output.append(table.amendingChange);
            }
        }
        if (table.closed) {
            output.append('!');
        }
        return output.length();
    }

    public int renderList() {
        output.setLength(0);
        Proposals proposals = state.proposals;
        for (int place = 0; place < proposals.count; place++) {
            if (place > 0) {
                output.append(',');
            }
            output.append(proposals.ids[place]);
            output.append('@');
            output.append(proposals.positions[place]);
        }
        return output.length();
    }

    public char outputAt(int index) throws IndexOutOfBoundsException {
        if (index < 0 || index >= output.length()) {
            throw new IndexOutOfBoundsException("the output text has no such index");
        }
        return output.charAt(index);
    }

    // Scripts

    public int type(char character) throws IllegalArgumentException, IllegalStateException {
        if (character < FIRST_CHARACTER || character > LAST_CHARACTER) {
            throw new IllegalArgumentException("the character cannot be typed");
        }
        if (script.isFull()) {
            throw new IllegalStateException("the script buffer is full");
        }
        return script.add(character);
    }

    public int runScript() throws IllegalArgumentException, IllegalStateException {
        int error = script.readAll();
        script.emptyBuffer();
        if (error != NONE) {
            latestError = error;
            throw new IllegalArgumentException("the script does not have the required form");
        }
        int failure = firstFailureOnDraft();
        if (failure != NONE) {
            latestFailure = failure;
            throw new IllegalStateException("a command of the script failed");
        }
        history.remember(state);
        state.copyFrom(draft);
        return script.commandCount;
    }

    public int errorPosition() throws NoSuchElementException {
        if (latestError == NONE) {
            throw new NoSuchElementException("every script had the required form");
        }
        return latestError;
    }

    public int failedCommand() throws NoSuchElementException {
        if (latestFailure == NONE) {
            throw new NoSuchElementException("no script had a failed command");
        }
        return latestFailure;
    }

    // Undo and the snapshot

    public int undo() throws IllegalStateException {
        if (history.count == 0) {
            throw new IllegalStateException("there is nothing to undo");
        }
        history.stepBack(state);
        return history.count;
    }

    public int save() {
        snapshot.copyFrom(state);
        hasSnapshot = true;
        return state.spoons.count;
    }

    public int restore() throws IllegalStateException {
        if (!hasSnapshot) {
            throw new IllegalStateException("there is no snapshot");
        }
        state.copyFrom(snapshot);
        history.forgetAll();
        return state.spoons.count;
    }

    // What the public methods share

    private int change(Command command, int first, int second, int third) {
        throwIfRefused(state.refusalOf(command, first, second, third));
        history.remember(state);
        return state.perform(command, first, second, third);
    }

    private static void throwIfRefused(Refusal refusal) {
        if (refusal == Refusal.ARGUMENT) {
            throw new IllegalArgumentException("an argument is out of its range");
        }
        if (refusal == Refusal.STATE) {
            throw new IllegalStateException("the state of the salon does not allow this");
        }
        if (refusal == Refusal.INDEX) {
            throw new IndexOutOfBoundsException("there is no such spoon or cell");
        }
        if (refusal == Refusal.ELEMENT) {
            throw new NoSuchElementException("there is no such proposal or motion");
        }
        if (refusal == Refusal.OPERATION) {
            throw new UnsupportedOperationException("this cannot be done now");
        }
    }

    /** The commands run on a draft, so that a failing one leaves nothing to take back. */
    private int firstFailureOnDraft() {
        draft.copyFrom(state);
        for (int place = 0; place < script.commandCount; place++) {
            Command command = script.commandAt(place);
            int first = script.argumentAt(place, 0);
            int second = script.argumentAt(place, 1);
            int third = script.argumentAt(place, 2);
            if (draft.refusalOf(command, first, second, third) != Refusal.NOTHING) {
                return place;
            }
            draft.perform(command, first, second, third);
        }
        return NONE;
    }

    private void checkSpoon(int spoon) {
        if (!state.spoons.has(spoon)) {
            throw new IndexOutOfBoundsException("there is no such spoon");
        }
    }

    private void checkCell(int row, int column) {
        if (!Cloth.hasCell(row, column)) {
            throw new IndexOutOfBoundsException("there is no such cell");
        }
    }

    private void checkPlaceOnList(int place) {
        if (place < 0 || place >= state.proposals.count) {
            throw new NoSuchElementException("the list has no such place");
        }
    }

    private void checkOnList(int proposal) {
        if (state.proposals.placeOf(proposal) == NONE) {
            throw new NoSuchElementException("no such proposal is on the list");
        }
    }

    private void checkMotion() {
        if (state.table.count == 0) {
            throw new NoSuchElementException("the table is empty");
        }
    }

    /** Copies as much as both rows hold, so that no copy can run over an end. */
    private static void copyRow(int[] from, int[] to) {
        System.arraycopy(from, 0, to, 0, Math.min(from.length, to.length));
    }

    private static boolean isBetween(int value, int least, int most) {
        return value >= least && value <= most;
    }

    /** Why a command cannot be performed, told by the exception that its method throws. */
    private enum Refusal {
        NOTHING, ARGUMENT, STATE, INDEX, ELEMENT, OPERATION
    }

    /** In a form, D is a digit, N one or two digits, S the same or with a minus; all else stands for itself. */
    private enum Command {
        SPOON("spoon D N"),
        PROPOSE("propose N"),
        MOVE("move N"),
        AMEND("amend S"),
        POSTPONE("postpone"),
        CLOSE("close"),
        ADJOURN("adjourn"),
        SPEAK("speak D"),
        VOTE("vote"),
        SPILL("spill DD N"),
        MOP("mop DD"),
        SUGAR("sugar D D");

        private static final Command[] ALL = values();

        private final String form;

        Command(String form) {
            this.form = form;
        }
    }

    /** All that undo and the snapshot cover, and what the commands do with it. */
    private static final class State {
        static final int ADOPTED = 1;
        private static final int REJECTED = 0;
        private static final int KEPT_MINUTES = 20;
        private static final int ACCEPTED_DISTANCE = 25;
        private static final int FEW_LUMPS = 3;
        private static final int REWARD = 2;
        private static final int ENDING_PUDDLE = 20;

        final Spoons spoons = new Spoons();
        final Proposals proposals = new Proposals();
        final Table table = new Table();
        final Cloth cloth = new Cloth();
        private final int[] minutes = new int[KEPT_MINUTES];
        int minutesWritten;
        int sittingsEnded;
        int votesTaken;
        int votesAdopted;

        void copyFrom(State other) {
            spoons.copyFrom(other.spoons);
            proposals.copyFrom(other.proposals);
            table.copyFrom(other.table);
            cloth.wet = other.cloth.wet;
            copyRow(other.minutes, minutes);
            minutesWritten = other.minutesWritten;
            sittingsEnded = other.sittingsEnded;
            votesTaken = other.votesTaken;
            votesAdopted = other.votesAdopted;
        }

        Refusal refusalOf(Command command, int first, int second, int third) {
            if (command == null) {
                return Refusal.ARGUMENT;
            }
            switch (command) {
                case SPOON:
                    return refusalOfSpoon(first, second);
                case PROPOSE:
                    return refusalOfProposal(first);
                case MOVE:
                    return proposals.placeOf(first) == NONE ? Refusal.ELEMENT : refusalOfMotion(Table.MAIN);
                case AMEND:
                    return isBetween(first, -Table.MOST_CHANGE, Table.MOST_CHANGE)
                            ? refusalOfMotion(Table.AMENDMENT) : Refusal.ARGUMENT;
                case POSTPONE:
                    return refusalOfMotion(Table.POSTPONEMENT);
                case CLOSE:
                    return refusalOfMotion(Table.CLOSURE);
                case ADJOURN:
                    return refusalOfMotion(Table.ADJOURNMENT);
                case SPEAK:
                    return refusalOfSpeech(first);
                case VOTE:
                    return table.count == 0 ? Refusal.ELEMENT : Refusal.NOTHING;
                case SPILL:
                    return refusalOfSpill(first, second, third);
                case MOP:
                    return refusalOfMop(first, second);
                case SUGAR:
                    return refusalOfSugar(first, second);
                default:
                    return Refusal.ARGUMENT;
            }
        }

        private Refusal refusalOfSpoon(int weight, int stance) {
            if (!isBetween(weight, 1, Spoons.MOST_WEIGHT) || !isBetween(stance, 0, Proposals.MOST_POSITION)) {
                return Refusal.ARGUMENT;
            }
            return spoons.count >= Spoons.MOST ? Refusal.STATE : Refusal.NOTHING;
        }

        private Refusal refusalOfProposal(int position) {
            if (!isBetween(position, 0, Proposals.MOST_POSITION)) {
                return Refusal.ARGUMENT;
            }
            return proposals.count >= Proposals.MOST ? Refusal.STATE : Refusal.NOTHING;
        }

        private Refusal refusalOfMotion(int rank) {
            return table.admits(rank) ? Refusal.NOTHING : Refusal.OPERATION;
        }

        private Refusal refusalOfSpeech(int spoon) {
            if (!spoons.has(spoon)) {
                return Refusal.INDEX;
            }
            if (table.count == 0 || table.closed || spoons.spoken[spoon] >= Spoons.MOST_SPEECHES) {
                return Refusal.STATE;
            }
            return spoons.lumps[spoon] <= 0 ? Refusal.OPERATION : Refusal.NOTHING;
        }

        private Refusal refusalOfSpill(int row, int column, int cells) {
            if (!Cloth.hasCell(row, column)) {
                return Refusal.INDEX;
            }
            return isBetween(cells, 1, Cloth.MOST_SPILLED) ? Refusal.NOTHING : Refusal.ARGUMENT;
        }

        private Refusal refusalOfMop(int row, int column) {
            if (!Cloth.hasCell(row, column)) {
                return Refusal.INDEX;
            }
            return cloth.wetAt(row, column) == 0 ? Refusal.STATE : Refusal.NOTHING;
        }

        private Refusal refusalOfSugar(int spoon, int given) {
            if (!spoons.has(spoon)) {
                return Refusal.INDEX;
            }
            return isBetween(given, 1, Spoons.MOST_GIVEN) ? Refusal.NOTHING : Refusal.ARGUMENT;
        }

        /** Performs a command that is not refused, and answers what its method returns. */
        int perform(Command command, int first, int second, int third) {
            if (command == null) {
                return NONE;
            }
            switch (command) {
                case SPOON:
                    return spoons.add(first, second);
                case PROPOSE:
                    return proposals.add(first);
                case MOVE:
                    table.mainId = first;
                    return table.put(Table.MAIN);
                case AMEND:
                    table.amendingChange = first;
                    return table.put(Table.AMENDMENT);
                case POSTPONE:
                    return table.put(Table.POSTPONEMENT);
                case CLOSE:
                    return table.put(Table.CLOSURE);
                case ADJOURN:
                    return table.put(Table.ADJOURNMENT);
                case SPEAK:
                    return spoons.letSpeak(first);
                case VOTE:
                    return decide() ? ADOPTED : REJECTED;
                case SPILL:
                    return spillTea(first, second, third);
                case MOP:
                    return cloth.dry(Cloth.cell(first, second));
                case SUGAR:
                    return spoons.give(first, second);
                default:
                    return NONE;
            }
        }

        private boolean decide() {
            int rank = table.topRank();
            boolean adopted = isEnough(yesWeight());
            votesTaken++;
            if (adopted) {
                votesAdopted++;
            }
            if (rank == Table.MAIN && adopted) {
                rewardYesVoters();
            }
            table.takeTop();
            if (rank == Table.MAIN) {
                settleMain(adopted);
            } else if (adopted) {
                takeEffect(rank);
            }
            startAnewIfTableIsEmpty();
            return adopted;
        }

        /** Asks for the votes, so it comes before the motion leaves the table and the proposal the list. */
        private void rewardYesVoters() {
            int position = mainPosition();
            for (int spoon = 0; spoon < spoons.count; spoon++) {
                if (saysYes(spoon, position)) {
                    spoons.gain(spoon, REWARD);
                }
            }
        }

        private void settleMain(boolean adopted) {
            if (adopted) {
                minutes[Math.floorMod(minutesWritten, KEPT_MINUTES)] = table.mainId;
                minutesWritten++;
            }
            proposals.remove(table.mainId);
        }

        private void takeEffect(int rank) {
            switch (rank) {
                case Table.AMENDMENT:
                    proposals.setPosition(table.mainId, amended(mainPosition()));
                    break;
                case Table.POSTPONEMENT:
                    table.clear();
                    proposals.moveToEnd(table.mainId);
                    break;
                case Table.CLOSURE:
                    table.closed = true;
                    break;
                case Table.ADJOURNMENT:
                    endSitting();
                    break;
                default:
                    break;
            }
        }

        private void endSitting() {
            table.clear();
            sittingsEnded++;
        }

        private void startAnewIfTableIsEmpty() {
            if (table.count == 0) {
                table.closed = false;
                spoons.forgetSpeeches();
            }
        }

        private int spillTea(int row, int column, int cells) {
            cloth.spread(row, column, cells);
            if (cloth.largestSize() >= ENDING_PUDDLE) {
                endSitting();
                startAnewIfTableIsEmpty();
            }
            return Long.bitCount(cloth.wet);
        }

        /** Only of use where a main motion lies on the table, or has just been lifted from it. */
        int mainPosition() {
            return proposals.positionOf(table.mainId);
        }

        private int amended(int position) {
            return Math.max(0, Math.min(Proposals.MOST_POSITION, position + table.amendingChange));
        }

        int yesWeight() {
            int position = mainPosition();
            int sum = 0;
            for (int spoon = 0; spoon < spoons.count; spoon++) {
                if (saysYes(spoon, position)) {
                    sum += spoons.weights[spoon];
                }
            }
            return sum;
        }

        boolean isEnough(int yes) {
            int all = spoons.weightSum();
            return table.topRank() == Table.CLOSURE ? 3 * yes >= 2 * all : 2 * yes > all;
        }

        /** The position is that of the main motion's proposal. */
        boolean saysYes(int spoon, int position) {
            if (!spoons.has(spoon)) {
                return false;
            }
            int distance = Math.abs(position - spoons.stances[spoon]);
            switch (table.topRank()) {
                case Table.MAIN:
                    return distance <= ACCEPTED_DISTANCE;
                case Table.AMENDMENT:
                    return Math.abs(amended(position) - spoons.stances[spoon]) < distance;
                case Table.POSTPONEMENT:
                    return distance > ACCEPTED_DISTANCE;
                case Table.CLOSURE:
                    return spoons.spoken[spoon] > 0;
                case Table.ADJOURNMENT:
                    return spoons.lumps[spoon] < FEW_LUMPS;
                default:
                    return false;
            }
        }

        boolean keepsMinute(int place) {
            return place >= 0 && place < minutesWritten && place >= minutesWritten - KEPT_MINUTES;
        }

        int minuteAt(int place) {
            return minutes[Math.floorMod(place, KEPT_MINUTES)];
        }
    }

    private static final class Spoons {
        static final int MOST = 8;
        static final int MOST_WEIGHT = 9;
        static final int MOST_GIVEN = 9;
        static final int MOST_SPEECHES = 2;
        private static final int FIRST_LUMPS = 5;

        final int[] weights = new int[MOST];
        final int[] stances = new int[MOST];
        final int[] lumps = new int[MOST];
        final int[] spoken = new int[MOST];
        int count;
        private int lumpsGiven;
        private int lumpsGained;
        private int lumpsSpent;

        void copyFrom(Spoons other) {
            copyRow(other.weights, weights);
            copyRow(other.stances, stances);
            copyRow(other.lumps, lumps);
            copyRow(other.spoken, spoken);
            count = other.count;
            lumpsGiven = other.lumpsGiven;
            lumpsGained = other.lumpsGained;
            lumpsSpent = other.lumpsSpent;
        }

        boolean has(int spoon) {
            return spoon >= 0 && spoon < count;
        }

        int add(int weight, int stance) {
            if (count >= MOST) {
                return NONE;
            }
            weights[count] = weight;
            stances[count] = stance;
            lumps[count] = FIRST_LUMPS;
            spoken[count] = 0;
            count++;
            return count - 1;
        }

        int letSpeak(int spoon) {
            if (!has(spoon)) {
                return NONE;
            }
            lumps[spoon]--;
            lumpsSpent++;
            spoken[spoon]++;
            return spoken[spoon];
        }

        int give(int spoon, int given) {
            if (!has(spoon)) {
                return NONE;
            }
            lumps[spoon] += given;
            lumpsGiven += given;
            return lumps[spoon];
        }

        void gain(int spoon, int gained) {
            if (has(spoon)) {
                lumps[spoon] += gained;
                lumpsGained += gained;
            }
        }

        void forgetSpeeches() {
            for (int spoon = 0; spoon < MOST; spoon++) {
                spoken[spoon] = 0;
            }
        }

        int weightSum() {
            return sumOf(weights);
        }

        int stanceSum() {
            return sumOf(stances);
        }

        int countedLumps() {
            return sumOf(lumps);
        }

        int accountedLumps() {
            return FIRST_LUMPS * count + lumpsGiven + lumpsGained - lumpsSpent;
        }

        private int sumOf(int[] row) {
            int sum = 0;
            for (int spoon = 0; spoon < count && spoon < row.length; spoon++) {
                sum += row[spoon];
            }
            return sum;
        }

        /** The weight of the spoons that prefer one position to another. */
        int preferring(int position, int otherPosition) {
            int sum = 0;
            for (int spoon = 0; spoon < count; spoon++) {
                if (Math.abs(position - stances[spoon]) < Math.abs(otherPosition - stances[spoon])) {
                    sum += weights[spoon];
                }
            }
            return sum;
        }

        /** No two spoons are alike in this order, so each has as its rank the number of those before it. */
        int atSugarRank(int rank) {
            for (int spoon = 0; spoon < count; spoon++) {
                int before = 0;
                for (int other = 0; other < count; other++) {
                    if (comesBefore(other, spoon)) {
                        before++;
                    }
                }
                if (before == rank) {
                    return spoon;
                }
            }
            return NONE;
        }

        private boolean comesBefore(int spoon, int other) {
            if (!has(spoon) || !has(other)) {
                return false;
            }
            if (lumps[spoon] != lumps[other]) {
                return lumps[spoon] > lumps[other];
            }
            if (weights[spoon] != weights[other]) {
                return weights[spoon] > weights[other];
            }
            return spoon < other;
        }
    }

    /** The list of proposals. */
    private static final class Proposals {
        static final int MOST = 6;
        static final int MOST_POSITION = 99;

        final int[] ids = new int[MOST];
        final int[] positions = new int[MOST];
        int count;
        private int nextId;

        void copyFrom(Proposals other) {
            copyRow(other.ids, ids);
            copyRow(other.positions, positions);
            count = other.count;
            nextId = other.nextId;
        }

        int placeOf(int id) {
            for (int place = 0; place < count; place++) {
                if (ids[place] == id) {
                    return place;
                }
            }
            return NONE;
        }

        int positionOf(int id) {
            int place = placeOf(id);
            return place == NONE ? 0 : positions[place];
        }

        void setPosition(int id, int position) {
            int place = placeOf(id);
            if (place != NONE) {
                positions[place] = position;
            }
        }

        int add(int position) {
            int id = nextId;
            nextId++;
            append(id, position);
            return id;
        }

        private void append(int id, int position) {
            if (count < MOST) {
                ids[count] = id;
                positions[count] = position;
                count++;
            }
        }

        void remove(int id) {
            int place = placeOf(id);
            if (place == NONE) {
                return;
            }
            for (int later = place + 1; later < count; later++) {
                ids[later - 1] = ids[later];
                positions[later - 1] = positions[later];
            }
            count--;
        }

        void moveToEnd(int id) {
            if (placeOf(id) != NONE) {
                int position = positionOf(id);
                remove(id);
                append(id, position);
            }
        }
    }

    /** The motions on the table, by their ranks. */
    private static final class Table {
        static final String KINDS = "mapcj";
        static final int MAIN = 0;
        static final int AMENDMENT = 1;
        static final int POSTPONEMENT = 2;
        static final int CLOSURE = 3;
        static final int ADJOURNMENT = 4;
        static final int MOST_CHANGE = 20;
        private static final int RANKS = 5;

        /** Ranks rise from motion to motion, so each lies here at most once. */
        private final int[] ranks = new int[RANKS];
        int count;
        int mainId;
        int amendingChange;
        boolean closed;

        void copyFrom(Table other) {
            copyRow(other.ranks, ranks);
            count = other.count;
            mainId = other.mainId;
            amendingChange = other.amendingChange;
            closed = other.closed;
        }

        int rankAt(int place) {
            return place >= 0 && place < count ? ranks[place] : NONE;
        }

        int topRank() {
            return rankAt(count - 1);
        }

        char letterAt(int place) {
            int rank = rankAt(place);
            return isBetween(rank, MAIN, ADJOURNMENT) ? KINDS.charAt(rank) : ' ';
        }

        boolean holds(int rank) {
            for (int place = 0; place < count; place++) {
                if (ranks[place] == rank) {
                    return true;
                }
            }
            return false;
        }

        boolean admits(int rank) {
            if (count == 0) {
                return rank == MAIN || rank == ADJOURNMENT;
            }
            return rank > topRank() && !(rank == AMENDMENT && closed);
        }

        int put(int rank) {
            if (count < RANKS) {
                ranks[count] = rank;
                count++;
            }
            return count;
        }

        void takeTop() {
            if (count > 0) {
                count--;
            }
        }

        void clear() {
            count = 0;
        }
    }

    /** Each cell is a bit of a number, so that a set of cells is a number too. */
    private static final class Cloth {
        static final int MOST_SPILLED = 30;
        private static final int SIDE = 8;
        private static final int CELLS = 64;
        private static final int FARTHEST = 14;
        private static final long FIRST_COLUMN = 0x0101010101010101L;
        private static final long LAST_COLUMN = 0x8080808080808080L;

        long wet;
        private final long[] groups = new long[CELLS];
        private int groupCount;

        static boolean hasCell(int row, int column) {
            return isBetween(row, 0, SIDE - 1) && isBetween(column, 0, SIDE - 1);
        }

        static long cell(int row, int column) {
            return 1L << (row * SIDE + column);
        }

        private static long neighbours(long cells) {
            return cells << SIDE | cells >>> SIDE
                    | (cells & ~FIRST_COLUMN) >>> 1 | (cells & ~LAST_COLUMN) << 1;
        }

        /** Of several cells, the first in the order of rows and columns. */
        private static long firstOf(long cells) {
            return cells & -cells;
        }

        long wetAt(int row, int column) {
            return wet & cell(row, column);
        }

        void spread(int row, int column, int cells) {
            int left = cells;
            for (int distance = 0; distance <= FARTHEST; distance++) {
                for (int nearRow = 0; nearRow < SIDE; nearRow++) {
                    int aside = distance - Math.abs(nearRow - row);
                    if (aside >= 0) {
                        left -= moisten(nearRow, column - aside, left);
                        left -= moisten(nearRow, column + aside, left);
                    }
                }
            }
        }

        /** Answers how many cells became wet: one or none. */
        private int moisten(int row, int column, int left) {
            if (left <= 0 || !hasCell(row, column) || wetAt(row, column) != 0) {
                return 0;
            }
            wet |= cell(row, column);
            return 1;
        }

        int dry(long start) {
            long puddle = walkFrom(start);
            wet &= ~puddle;
            return Long.bitCount(puddle);
        }

        /** Goes from cell to cell, and answers the puddle of the first one, no cells if that is dry. */
        long walkFrom(long start) {
            long visited = 0;
            long seen = wet & start;
            for (int step = 0; step < CELLS && seen != 0; step++) {
                long here = firstOf(seen);
                visited |= here;
                seen = (seen | neighbours(here)) & wet & ~visited;
            }
            return visited;
        }

        int largestSize() {
            int largest = 0;
            long left = wet;
            for (int step = 0; step < CELLS && left != 0; step++) {
                long puddle = walkFrom(firstOf(left));
                left &= ~puddle;
                largest = Math.max(largest, Long.bitCount(puddle));
            }
            return largest;
        }

        int countPuddles() {
            int count = 0;
            long left = wet;
            for (int step = 0; step < CELLS && left != 0; step++) {
                left &= ~walkFrom(firstOf(left));
                count++;
            }
            return count;
        }

        /** Goes over the rows, and joins each wet cell with the groups that it touches. */
        void joinGroups() {
            groupCount = 0;
            for (int row = 0; row < SIDE; row++) {
                for (int column = 0; column < SIDE; column++) {
                    if (wetAt(row, column) != 0) {
                        joinCell(cell(row, column));
                    }
                }
            }
        }

        private void joinCell(long cell) {
            long near = neighbours(cell);
            long joined = cell;
            int kept = 0;
            for (int group = 0; group < groupCount; group++) {
                if ((groups[group] & near) != 0) {
                    joined |= groups[group];
                } else {
                    groups[kept] = groups[group];
                    kept++;
                }
            }
            if (kept < CELLS) {
                groups[kept] = joined;
                kept++;
            }
            groupCount = kept;
        }

        /** The group that a cell was joined to, no cells if it is dry. */
        long groupOf(long cell) {
            for (int group = 0; group < groupCount; group++) {
                if ((groups[group] & cell) != 0) {
                    return groups[group];
                }
            }
            return 0;
        }

        /** All cells of a puddle have the same one, so one walk a puddle measures every wet cell. */
        boolean puddleWaysAgree() {
            joinGroups();
            long left = wet;
            for (int step = 0; step < CELLS && left != 0; step++) {
                long start = firstOf(left);
                long puddle = walkFrom(start);
                if (puddle != groupOf(start)) {
                    return false;
                }
                left &= ~puddle;
            }
            return true;
        }
    }

    /** Orders and the top. Proposals go by their places on the list here, and a set of them is a number of bits. */
    private static final class Ranking {
        private static final int NO_ORDER_YET = 1_000_000;

        /** In the row of one place, its support against every other one. */
        private final int[] supports = new int[Proposals.MOST * Proposals.MOST];
        private final int[] fewest = new int[1 << Proposals.MOST];
        private int count;

        static boolean isIn(int place, int set) {
            return (set >> place & 1) != 0;
        }

        void survey(State state) {
            Proposals proposals = state.proposals;
            count = Math.min(proposals.count, Proposals.MOST);
            for (int place = 0; place < count; place++) {
                for (int other = 0; other < count; other++) {
                    supports[place * Proposals.MOST + other] =
                            state.spoons.preferring(proposals.positions[place], proposals.positions[other]);
                }
            }
        }

        private int allPlaces() {
            return (1 << count) - 1;
        }

        /** The disagreements of one proposal with all of a set that come later. */
        private static int disagreements(int[] supports, int earlier, int laterSet) {
            int sum = 0;
            for (int later = 0; later < Proposals.MOST; later++) {
                int index = later * Proposals.MOST + earlier;
                if (isIn(later, laterSet) && index >= 0 && index < supports.length) {
                    sum += supports[index];
                }
            }
            return sum;
        }

        int fewestByTable() {
            for (int set = 0; set <= allPlaces() && set < fewest.length; set++) {
                fewest[set] = set == 0 ? 0 : fewestOf(set);
            }
            return fewest[allPlaces()];
        }

        private int fewestOf(int set) {
            int least = NO_ORDER_YET;
            for (int first = 0; first < count; first++) {
                if (isIn(first, set)) {
                    least = Math.min(least, fewestWithFirst(first, set));
                }
            }
            return least;
        }

        /** Reads the table where it has been filled already: a set without one member is a smaller number. */
        private int fewestWithFirst(int first, int set) {
            int rest = set & ~(1 << first);
            if (rest < 0 || rest >= fewest.length) {
                return NO_ORDER_YET;
            }
            return fewest[rest] + disagreements(supports, first, rest);
        }

        int idInBestOrder(int place, Proposals proposals) {
            fewestByTable();
            int left = allPlaces();
            int id = NONE;
            for (int step = 0; step <= place && step < count; step++) {
                int first = bestFirst(left, proposals);
                if (first == NONE) {
                    return NONE;
                }
                id = proposals.ids[first];
                left &= ~(1 << first);
            }
            return id;
        }

        private int bestFirst(int set, Proposals proposals) {
            int best = NONE;
            for (int first = 0; first < count; first++) {
                if (isIn(first, set) && fewestWithFirst(first, set) == fewest[set]
                        && (best == NONE || proposals.ids[first] < proposals.ids[best])) {
                    best = first;
                }
            }
            return best;
        }

        int fewestByTrying() {
            return fewestFrom(supports, 0, allPlaces(), 0, NO_ORDER_YET);
        }

        /** Tries every proposal that is left at the place, unless the sum so far is no better than what is known. */
        private static int fewestFrom(int[] supports, int place, int left, int sum, int known) {
            if (sum >= known) {
                return known;
            }
            if (left == 0 || place >= Proposals.MOST) {
                return sum;
            }
            int least = known;
            for (int next = 0; next < Proposals.MOST; next++) {
                if (isIn(next, left)) {
                    int rest = left & ~(1 << next);
                    int added = disagreements(supports, next, rest);
                    least = fewestFrom(supports, place + 1, rest, sum + added, least);
                }
            }
            return least;
        }

        private boolean beats(int place, int other) {
            return supports[place * Proposals.MOST + other] > supports[other * Proposals.MOST + place];
        }

        /** Steps lead from the top to every proposal, but never back into it, as it beats all outside. */
        boolean leadsToAll(int start) {
            int reached = 1 << start;
            for (int round = 0; round < count; round++) {
                for (int place = 0; place < count; place++) {
                    if (isIn(place, reached)) {
                        reached |= notBeating(place);
                    }
                }
            }
            return reached == allPlaces();
        }

        private int notBeating(int place) {
            int set = 0;
            for (int other = 0; other < count; other++) {
                if (!beats(other, place)) {
                    set |= 1 << other;
                }
            }
            return set;
        }

        int smallestTop() {
            int smallest = allPlaces();
            for (int set = 1; set < allPlaces(); set++) {
                if (Integer.bitCount(set) < Integer.bitCount(smallest) && beatsAllOutside(set)) {
                    smallest = set;
                }
            }
            return smallest;
        }

        private boolean beatsAllOutside(int set) {
            for (int place = 0; place < count; place++) {
                for (int other = 0; other < count; other++) {
                    if (isIn(place, set) && !isIn(other, set) && !beats(place, other)) {
                        return false;
                    }
                }
            }
            return true;
        }

        boolean topWaysAgree() {
            int top = smallestTop();
            for (int place = 0; place < count; place++) {
                if (leadsToAll(place) != isIn(place, top)) {
                    return false;
                }
            }
            return true;
        }
    }

    /** The states before the latest changes, in a ring. */
    private static final class History {
        private static final int MOST = 8;

        private final State[] earlier = new State[MOST];
        private int next;
        int count;

        History() {
            for (int slot = 0; slot < MOST; slot++) {
                earlier[slot] = new State();
            }
        }

        void remember(State state) {
            State slot = earlier[Math.floorMod(next, MOST)];
            if (slot != null) {
                slot.copyFrom(state);
                next = Math.floorMod(next + 1, MOST);
                count = Math.min(count + 1, MOST);
            }
        }

        void stepBack(State state) {
            State slot = earlier[Math.floorMod(next - 1, MOST)];
            if (slot != null && count > 0) {
                state.copyFrom(slot);
                next = Math.floorMod(next - 1, MOST);
                count--;
            }
        }

        void forgetAll() {
            count = 0;
        }
    }

    /** The script buffer, and the commands of the script that was read last. */
    private static final class Script {
        private static final int MOST_CHARACTERS = 60;
        /** The shortest command has four characters, and a semicolon comes between two. */
        private static final int MOST_COMMANDS = 12;
        private static final int ARGUMENTS = 3;

        private final char[] text = new char[MOST_CHARACTERS];
        private final Command[] commands = new Command[MOST_COMMANDS];
        private final int[] arguments = new int[MOST_COMMANDS * ARGUMENTS];
        private int length;
        int commandCount;
        private int cursor;
        private int argumentCount;

        boolean isFull() {
            return length >= MOST_CHARACTERS;
        }

        int add(char character) {
            if (length < MOST_CHARACTERS) {
                text[length] = character;
                length++;
            }
            return length;
        }

        void emptyBuffer() {
            length = 0;
        }

        Command commandAt(int place) {
            return place >= 0 && place < commandCount ? commands[place] : null;
        }

        int argumentAt(int place, int which) {
            int index = place * ARGUMENTS + which;
            return index >= 0 && index < arguments.length ? arguments[index] : 0;
        }

        /** Reads the whole text, and answers its error position, or NONE if it has the form of a script. */
        int readAll() {
            commandCount = 0;
            cursor = 0;
            for (int read = 0; read <= MOST_COMMANDS; read++) {
                if (!readCommand()) {
                    return cursor;
                }
                if (cursor >= length) {
                    return NONE;
                }
                if (!take(';')) {
                    return cursor;
                }
            }
            return cursor;
        }

        /** Leaves the cursor behind the command, or where no command can go on. */
        private boolean readCommand() {
            int start = cursor;
            int farthest = start;
            for (Command command : Command.ALL) {
                cursor = start;
                if (follows(command.form)) {
                    keep(command);
                    return true;
                }
                farthest = Math.max(farthest, cursor);
            }
            cursor = farthest;
            return false;
        }

        private void keep(Command command) {
            if (commandCount < MOST_COMMANDS) {
                commands[commandCount] = command;
                commandCount++;
            }
        }

        private boolean follows(String form) {
            argumentCount = 0;
            for (int part = 0; part < form.length(); part++) {
                if (!takePart(form.charAt(part))) {
                    return false;
                }
            }
            return true;
        }

        private boolean takePart(char part) {
            switch (part) {
                case 'D':
                    return takeNumber(1, 1);
                case 'N':
                    return takeNumber(2, 1);
                case 'S':
                    return takeNumber(2, take('-') ? -1 : 1);
                default:
                    return take(part);
            }
        }

        private boolean take(char wanted) {
            if (cursor >= length || text[cursor] != wanted) {
                return false;
            }
            cursor++;
            return true;
        }

        private boolean takeNumber(int mostDigits, int sign) {
            int value = 0;
            int digits = 0;
            while (digits < mostDigits && cursor < length && isBetween(text[cursor], '0', '9')) {
                value = value * 10 + text[cursor] - '0';
                cursor++;
                digits++;
            }
            if (digits > 0) {
                keepArgument(sign * value);
            }
            return digits > 0;
        }

        private void keepArgument(int value) {
            int index = commandCount * ARGUMENTS + argumentCount;
            if (index >= 0 && index < arguments.length) {
                arguments[index] = value;
                argumentCount++;
            }
        }
    }
}
