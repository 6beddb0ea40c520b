import java.util.Arrays;

/** A locomotive roundhouse with a turntable, a log that can be undone, two saving slots and a planner. */
public final class TurntableHouse {
    public static final int NO_SUCH_POSITION = -1, NO_SUCH_TRACK = -2, NO_SUCH_LOCOMOTIVE = -3, BAD_VALUE = -4, NOT_EMPTY = -5, TOO_FEW = -6, ALL_DEAD = -7, NO_ROOM = -8, TOO_MANY = -9, NOT_SAVED = -10, NONE = -11;
    public static final int END_A = 0, END_B = 1;
    public static final int TABLE = 12;

    private static final int POSITIONS = 12;
    private static final int HALF_ROUND = 6;
    private static final int PLACES = POSITIONS + 1;
    private static final int MOST_LENGTH = 60;
    private static final int NEW_TABLE_LENGTH = 30;
    private static final int MOST_LOCOMOTIVES = 8;
    private static final int MOST_LOCOMOTIVE_LENGTH = 20;
    private static final int MOST_TURNS_AT_ONCE = 11;
    private static final int MOST_LOGGED = 40;
    private static final int SLOTS = 2;

    private static final int CLOCKWISE = 0, COUNTERCLOCKWISE = 1;
    /** Kinds of movements: the code of a movement is its kind plus the number of locomotives. */
    private static final int IN_AT_A = 10, IN_AT_B = 20, OUT_AT_A = 30, OUT_AT_B = 40;
    private static final int KIND_STEP = 10;
    private static final int FROM_IN_TO_OUT = 20;
    private static final int POSSIBLE = 0;

    private static final int MOST_PLANNED_LOCOMOTIVES = 3;
    private static final int MOST_PLANNED_TRACKS = 5;
    private static final int MOST_PLANNED_PLACES = MOST_PLANNED_TRACKS + 1;
    /** Three locomotives have 6 * 7 * 8 arrangements in six rows, each for every position of end A. */
    private static final int MOST_STATES = POSITIONS * 6 * 7 * 8;
    private static final int MOST_NEIGHBOURS = 2 + 4 * MOST_PLANNED_LOCOMOTIVES;
    /** Above every number of actions of a best plan, which meets no state twice. */
    private static final int TURN_WEIGHT = 10000;
    /** Above every cost: a best plan has fewer than MOST_STATES turns. */
    private static final int UNREACHED = 1000000000;

    private final Yard yard;
    private final Yard[] slots;
    private final ActionLog actions;
    /** Null until the first plan is asked for: its tables are the largest part of a house. */
    private Planner planner;
    private int turnCount;

    public TurntableHouse() {
        yard = new Yard();
        slots = new Yard[SLOTS];
        actions = new ActionLog();
    }

    public int setTrack(int position, int length) {
        if (!isPosition(position)) {
            return NO_SUCH_POSITION;
        }
        if (length < 0 || length > MOST_LENGTH) {
            return BAD_VALUE;
        }
        return changeLength(position, length);
    }

    public int setTableLength(int length) {
        if (length < 1 || length > MOST_LENGTH) {
            return BAD_VALUE;
        }
        return changeLength(TABLE, length);
    }

    public int addLocomotive(int length, int position) {
        if (!isPosition(position)) {
            return NO_SUCH_POSITION;
        }
        if (yard.lengthAt(position) == 0) {
            return NO_SUCH_TRACK;
        }
        if (length < 1 || length > MOST_LOCOMOTIVE_LENGTH) {
            return BAD_VALUE;
        }
        if (length > yard.freeAt(position)) {
            return NO_ROOM;
        }
        if (yard.locomotiveCount >= MOST_LOCOMOTIVES) {
            return TOO_MANY;
        }
        houseChanges();
        return yard.addFirst(length, position);
    }

    public int removeLocomotive() {
        if (yard.locomotiveCount == 0) {
            return NONE;
        }
        houseChanges();
        return yard.removeNewest();
    }

    public int setDead(int locomotive, boolean dead) {
        if (!yard.isLocomotive(locomotive)) {
            return NO_SUCH_LOCOMOTIVE;
        }
        int previous = yard.isAlive(locomotive) ? 0 : 1;
        houseChanges();
        yard.markDead(locomotive, dead);
        return previous;
    }

    public int locomotives() {
        return yard.locomotiveCount;
    }

    public int trackLength(int position) {
        return isPosition(position) ? yard.lengthAt(position) : NO_SUCH_POSITION;
    }

    public int freeLength(int place) {
        int error = placeError(place);
        return error != POSSIBLE ? error : yard.freeAt(place);
    }

    public int row(int place, int index) {
        int error = placeError(place);
        if (error != POSSIBLE) {
            return error;
        }
        return index == -1 ? yard.countAt(place) : yard.locomotiveAt(place, index);
    }

    public int place(int locomotive) {
        return yard.isLocomotive(locomotive) ? yard.placeOf(locomotive) : NO_SUCH_LOCOMOTIVE;
    }

    public int pointsTo(int end) {
        return isEnd(end) ? yard.positionAt(end) : BAD_VALUE;
    }

    public int turn(int turns) {
        if (turns == 0 || turns < -MOST_TURNS_AT_ONCE || turns > MOST_TURNS_AT_ONCE) {
            return BAD_VALUE;
        }
        int code = turns > 0 ? CLOCKWISE : COUNTERCLOCKWISE;
        int number = Math.abs(turns);
        for (int i = 0; i < number; i++) {
            yard.carryOut(code);
            actions.append(code);
        }
        turnCount += number;
        return yard.endA;
    }

    public int moveIn(int end, int count) {
        if (!isEnd(end) || count < 1) {
            return BAD_VALUE;
        }
        return moveIfPossible(end == END_A ? IN_AT_A : IN_AT_B, count);
    }

    public int moveOut(int end, int count) {
        if (!isEnd(end) || count < 1) {
            return BAD_VALUE;
        }
        return moveIfPossible(end == END_A ? OUT_AT_A : OUT_AT_B, count);
    }

    public int turnsMade() {
        return turnCount;
    }

    public int undo() {
        int code = actions.removeLatest();
        if (code != NONE) {
            yard.carryOut(reverseOf(code));
        }
        return code;
    }

    public int log(int index) {
        return index == -1 ? actions.count : actions.latest(index);
    }

    public int fewestTurns(int locomotive, int position) {
        int error = planError(locomotive, position);
        if (error != POSSIBLE) {
            return error;
        }
        Planner ready = readyPlanner();
        ready.aimAt(yard, locomotive, position);
        int cost = ready.bestCost(yard);
        return cost == UNREACHED ? NONE : cost / TURN_WEIGHT;
    }

    public int plan(int locomotive, int position, int index) {
        int error = planError(locomotive, position);
        if (error != POSSIBLE) {
            return error;
        }
        Planner ready = readyPlanner();
        ready.aimAt(yard, locomotive, position);
        int cost = ready.bestCost(yard);
        if (cost == UNREACHED || index < -1) {
            return NONE;
        }
        return index == -1 ? cost % TURN_WEIGHT : ready.actionAt(yard, index);
    }

    public int save(int slot) {
        if (!isSlot(slot)) {
            return BAD_VALUE;
        }
        Yard kept = slots[slot];
        if (kept == null) {
            kept = new Yard();
            slots[slot] = kept;
        }
        kept.copyFrom(yard);
        return yard.locomotiveCount;
    }

    public int restore(int slot) {
        if (!isSlot(slot)) {
            return BAD_VALUE;
        }
        Yard kept = slots[slot];
        if (kept == null) {
            return NOT_SAVED;
        }
        houseChanges();
        yard.copyFrom(kept);
        return yard.locomotiveCount;
    }

    private static boolean isPosition(int position) {
        return position >= 0 && position < POSITIONS;
    }

    private static boolean isEnd(int end) {
        return end == END_A || end == END_B;
    }

    private static boolean isSlot(int slot) {
        return slot >= 0 && slot < SLOTS;
    }

    private static int endOf(int kind) {
        return kind == IN_AT_A || kind == OUT_AT_A ? END_A : END_B;
    }

    private static int reverseOf(int code) {
        if (code == CLOCKWISE) {
            return COUNTERCLOCKWISE;
        }
        if (code == COUNTERCLOCKWISE) {
            return CLOCKWISE;
        }
        return code < OUT_AT_A ? code + FROM_IN_TO_OUT : code - FROM_IN_TO_OUT;
    }

    private int placeError(int place) {
        if (place == TABLE) {
            return POSSIBLE;
        }
        if (!isPosition(place)) {
            return NO_SUCH_POSITION;
        }
        return yard.lengthAt(place) == 0 ? NO_SUCH_TRACK : POSSIBLE;
    }

    private int planError(int locomotive, int position) {
        if (!yard.isLocomotive(locomotive)) {
            return NO_SUCH_LOCOMOTIVE;
        }
        if (!isPosition(position)) {
            return NO_SUCH_POSITION;
        }
        if (yard.lengthAt(position) == 0) {
            return NO_SUCH_TRACK;
        }
        boolean small = yard.locomotiveCount <= MOST_PLANNED_LOCOMOTIVES
                && yard.trackCount() <= MOST_PLANNED_TRACKS;
        return small ? POSSIBLE : TOO_MANY;
    }

    private int changeLength(int place, int length) {
        if (length < yard.usedAt(place)) {
            return NOT_EMPTY;
        }
        int previous = yard.lengthAt(place);
        houseChanges();
        yard.setLength(place, length);
        return previous;
    }

    private int moveIfPossible(int kind, int count) {
        int error = yard.movementError(kind, count);
        if (error != POSSIBLE) {
            return error;
        }
        yard.shift(kind, count);
        actions.append(kind + count);
        return yard.countAt(yard.targetOf(kind));
    }

    /** What the log and the planner hold is true only as long as the house itself stays as it is. */
    private void houseChanges() {
        actions.forgetAll();
        if (planner != null) {
            planner.forgetGoal();
        }
    }

    private Planner readyPlanner() {
        if (planner == null) {
            planner = new Planner();
        }
        return planner;
    }

    /** The tracks, the table and the locomotives: all that a slot keeps. */
    private static final class Yard {
        private final int[] lengths;
        private final int[] used;
        private final int[] counts;
        /** The rows of all places, MOST_LOCOMOTIVES elements for each. */
        private final int[] rows;
        private final int[] sizes;
        private int locomotiveCount;
        /** Bit n tells whether locomotive n is dead. */
        private int deadBits;
        private int endA;

        Yard() {
            lengths = new int[PLACES];
            lengths[TABLE] = NEW_TABLE_LENGTH;
            used = new int[PLACES];
            counts = new int[PLACES];
            rows = new int[PLACES * MOST_LOCOMOTIVES];
            sizes = new int[MOST_LOCOMOTIVES];
        }

        void copyFrom(Yard other) {
            System.arraycopy(other.lengths, 0, lengths, 0, PLACES);
            System.arraycopy(other.used, 0, used, 0, PLACES);
            System.arraycopy(other.counts, 0, counts, 0, PLACES);
            System.arraycopy(other.rows, 0, rows, 0, PLACES * MOST_LOCOMOTIVES);
            System.arraycopy(other.sizes, 0, sizes, 0, MOST_LOCOMOTIVES);
            locomotiveCount = other.locomotiveCount;
            deadBits = other.deadBits;
            endA = other.endA;
        }

        boolean isLocomotive(int locomotive) {
            return locomotive >= 0 && locomotive < locomotiveCount && locomotive < MOST_LOCOMOTIVES;
        }

        boolean isAlive(int locomotive) {
            return isLocomotive(locomotive) && (deadBits >> locomotive & 1) == 0;
        }

        int sizeOf(int locomotive) {
            return locomotive >= 0 && locomotive < MOST_LOCOMOTIVES ? sizes[locomotive] : 0;
        }

        int lengthAt(int place) {
            return place >= 0 && place < PLACES ? lengths[place] : 0;
        }

        int usedAt(int place) {
            return place >= 0 && place < PLACES ? used[place] : 0;
        }

        int freeAt(int place) {
            return lengthAt(place) - usedAt(place);
        }

        int countAt(int place) {
            return place >= 0 && place < PLACES ? counts[place] : 0;
        }

        int locomotiveAt(int place, int index) {
            if (place < 0 || place >= PLACES || index < 0 || index >= counts[place] || index >= MOST_LOCOMOTIVES) {
                return NONE;
            }
            return rows[place * MOST_LOCOMOTIVES + index];
        }

        int placeOf(int locomotive) {
            for (int place = 0; place < PLACES; place++) {
                if (indexIn(place, locomotive) != NONE) {
                    return place;
                }
            }
            return NONE;
        }

        int indexIn(int place, int locomotive) {
            int count = countAt(place);
            for (int index = 0; index < count; index++) {
                if (locomotiveAt(place, index) == locomotive) {
                    return index;
                }
            }
            return NONE;
        }

        int trackCount() {
            int tracks = 0;
            for (int position = 0; position < POSITIONS; position++) {
                if (lengths[position] > 0) {
                    tracks++;
                }
            }
            return tracks;
        }

        int positionAt(int end) {
            return end == END_A ? endA : (endA + HALF_ROUND) % POSITIONS;
        }

        void setLength(int place, int length) {
            if (place >= 0 && place < PLACES) {
                lengths[place] = length;
            }
        }

        void markDead(int locomotive, boolean nowDead) {
            if (isLocomotive(locomotive)) {
                int bit = 1 << locomotive;
                deadBits = nowDead ? deadBits | bit : deadBits & ~bit;
            }
        }

        int addFirst(int length, int position) {
            int locomotive = locomotiveCount;
            if (locomotive < 0 || locomotive >= MOST_LOCOMOTIVES) {
                return TOO_MANY;
            }
            sizes[locomotive] = length;
            locomotiveCount++;
            markDead(locomotive, false);
            putIn(position, 0, locomotive);
            return locomotive;
        }

        int removeNewest() {
            int newest = locomotiveCount - 1;
            int place = placeOf(newest);
            takeOut(place, indexIn(place, newest));
            locomotiveCount = newest;
            return newest;
        }

        int takeOut(int place, int index) {
            int locomotive = locomotiveAt(place, index);
            if (locomotive == NONE) {
                return NONE;
            }
            int start = place * MOST_LOCOMOTIVES;
            for (int i = index + 1; i < counts[place] && i < MOST_LOCOMOTIVES; i++) {
                rows[start + i - 1] = rows[start + i];
            }
            counts[place]--;
            used[place] -= sizeOf(locomotive);
            return locomotive;
        }

        void putIn(int place, int index, int locomotive) {
            int count = countAt(place);
            if (place < 0 || place >= PLACES || index < 0 || index > count || count >= MOST_LOCOMOTIVES) {
                return;
            }
            int start = place * MOST_LOCOMOTIVES;
            for (int i = count; i > index; i--) {
                rows[start + i] = rows[start + i - 1];
            }
            rows[start + index] = locomotive;
            counts[place]++;
            used[place] += sizeOf(locomotive);
        }

        void emptyRows() {
            Arrays.fill(counts, 0);
            Arrays.fill(used, 0);
        }

        boolean allFit() {
            for (int place = 0; place < PLACES; place++) {
                if (used[place] > lengths[place]) {
                    return false;
                }
            }
            return true;
        }

        int sourceOf(int kind) {
            return kind < OUT_AT_A ? positionAt(endOf(kind)) : TABLE;
        }

        int targetOf(int kind) {
            return kind < OUT_AT_A ? TABLE : positionAt(endOf(kind));
        }

        int movementError(int kind, int count) {
            if (lengthAt(positionAt(endOf(kind))) == 0) {
                return NO_SUCH_TRACK;
            }
            int source = sourceOf(kind);
            int there = countAt(source);
            if (there < count) {
                return TOO_FEW;
            }
            int total = 0;
            boolean alive = false;
            for (int i = 0; i < count; i++) {
                int locomotive = locomotiveAt(source, kind == OUT_AT_B ? there - 1 - i : i);
                total += sizeOf(locomotive);
                alive = alive || isAlive(locomotive);
            }
            if (!alive) {
                return ALL_DEAD;
            }
            return total > freeAt(targetOf(kind)) ? NO_ROOM : POSSIBLE;
        }

        /** Moves one locomotive after the other, which leaves them in the order that moving all at once gives. */
        void shift(int kind, int count) {
            int source = sourceOf(kind);
            int target = targetOf(kind);
            for (int i = 0; i < count; i++) {
                int locomotive = takeOut(source, kind == OUT_AT_B ? countAt(TABLE) - 1 : 0);
                putIn(target, kind == IN_AT_B ? countAt(TABLE) : 0, locomotive);
            }
        }

        void carryOut(int code) {
            if (code == CLOCKWISE) {
                endA = (endA + 1) % POSITIONS;
            } else if (code == COUNTERCLOCKWISE) {
                endA = (endA + POSITIONS - 1) % POSITIONS;
            } else {
                shift(code - code % KIND_STEP, code % KIND_STEP);
            }
        }
    }

    /** The codes of the latest actions. */
    private static final class ActionLog {
        private final int[] codes;
        private int count;

        ActionLog() {
            codes = new int[MOST_LOGGED];
        }

        void append(int code) {
            if (count >= MOST_LOGGED) {
                for (int i = 1; i < MOST_LOGGED; i++) {
                    codes[i - 1] = codes[i];
                }
                count = MOST_LOGGED - 1;
            }
            if (count >= 0) {
                codes[count] = code;
                count++;
            }
        }

        void forgetAll() {
            count = 0;
        }

        int latest(int index) {
            return index >= 0 && index < count && count <= MOST_LOGGED ? codes[count - 1 - index] : NONE;
        }

        int removeLatest() {
            int code = latest(0);
            if (code != NONE) {
                count--;
            }
            return code;
        }
    }

    /** States in the order in which they were added. A search adds none twice, as its costs only rise. */
    private static final class StateQueue {
        private final int[] states;
        private int head;
        private int tail;

        StateQueue() {
            states = new int[MOST_STATES];
        }

        void reset() {
            head = 0;
            tail = 0;
        }

        void add(int state) {
            if (tail >= 0 && tail < MOST_STATES) {
                states[tail] = state;
                tail++;
            }
        }

        int first() {
            return head >= 0 && head < tail && head < MOST_STATES ? states[head] : NONE;
        }

        int removeFirst() {
            int state = first();
            if (state != NONE) {
                head++;
            }
            return state;
        }
    }

    /**
     * Finds what the best plan from a state costs: TURN_WEIGHT for each turn and 1 for each action.
     * It searches from the goal, since every action can be reversed at the same cost; so the costs hold
     * for every present situation, until the house or the goal changes.
     *
     * A state is a number made of the position of end A and of one number for each locomotive: where it is put
     * when the locomotives are put one by one into a line of all the rows. No two states share a number, and none
     * is left out, which keeps the tables small.
     */
    private static final class Planner {
        private final Yard view;
        private final int[] places;
        private final int[] lineSlots;
        private final int[] codes;
        private final int[] neighbours;
        private final int[] costs;
        /** Each is in the order of costs, because what it gets has the same amount added to costs that only rise. */
        private final StateQueue afterTurns;
        private final StateQueue afterMovements;
        private int placeCount;
        private int stateCount;
        private int found;
        private int goalLocomotive;
        private int goalPosition;

        Planner() {
            view = new Yard();
            places = new int[MOST_PLANNED_PLACES];
            lineSlots = new int[MOST_PLANNED_LOCOMOTIVES];
            codes = new int[MOST_NEIGHBOURS];
            neighbours = new int[MOST_NEIGHBOURS];
            costs = new int[MOST_STATES];
            afterTurns = new StateQueue();
            afterMovements = new StateQueue();
            goalLocomotive = NONE;
            goalPosition = NONE;
        }

        void forgetGoal() {
            goalLocomotive = NONE;
        }

        void aimAt(Yard yard, int locomotive, int position) {
            if (locomotive == goalLocomotive && position == goalPosition) {
                return;
            }
            goalLocomotive = locomotive;
            goalPosition = position;
            view.copyFrom(yard);
            listPlaces();
            stateCount = POSITIONS;
            for (int i = 0; i < view.locomotiveCount && i < MOST_PLANNED_LOCOMOTIVES; i++) {
                stateCount *= waysToPut(i);
            }
            Arrays.fill(costs, UNREACHED);
            afterTurns.reset();
            afterMovements.reset();
            addGoals();
        }

        /** Searches only as far as the present situation needs; a later call goes on from there. */
        int bestCost(Yard yard) {
            int start = stateOf(yard);
            for (int i = 0; i < 2 * MOST_STATES; i++) {
                StateQueue queue = nearerQueue();
                if (costOf(queue.first()) >= costOf(start)) {
                    break;
                }
                int state = queue.removeFirst();
                listNeighbours(state);
                improveNeighbours(costOf(state));
            }
            return costOf(start);
        }

        /** To be asked after bestCost: it follows the smallest codes along which the costs fall. */
        int actionAt(Yard yard, int index) {
            int state = stateOf(yard);
            int code = NONE;
            for (int i = 0; i <= index && i < MOST_STATES; i++) {
                listNeighbours(state);
                int best = firstOnBestPlan(costOf(state));
                if (best < 0 || best >= MOST_NEIGHBOURS) {
                    return NONE;
                }
                code = codes[best];
                state = neighbours[best];
            }
            return code;
        }

        private void listPlaces() {
            places[0] = TABLE;
            placeCount = 1;
            for (int position = 0; position < POSITIONS; position++) {
                if (view.lengthAt(position) > 0 && placeCount < MOST_PLANNED_PLACES) {
                    places[placeCount] = position;
                    placeCount++;
                }
            }
        }

        /** At least 1, so that it can divide. */
        private int waysToPut(int locomotive) {
            return Math.max(1, placeCount + locomotive);
        }

        private void addGoals() {
            for (int state = 0; state < stateCount; state += POSITIONS) {
                showRows(state);
                if (view.locomotiveAt(goalPosition, 0) == goalLocomotive && view.allFit()) {
                    for (int endA = 0; endA < POSITIONS; endA++) {
                        improve(state + endA, 0, afterMovements);
                    }
                }
            }
        }

        private void showRows(int state) {
            view.emptyRows();
            int rest = state / POSITIONS;
            for (int i = 0; i < view.locomotiveCount && i < MOST_PLANNED_LOCOMOTIVES; i++) {
                int ways = waysToPut(i);
                putIntoLine(i, rest % ways);
                rest /= ways;
            }
        }

        private void putIntoLine(int locomotive, int slot) {
            int firstSlot = 0;
            for (int i = 0; i < placeCount && i < MOST_PLANNED_PLACES; i++) {
                int count = view.countAt(places[i]);
                if (slot <= firstSlot + count) {
                    view.putIn(places[i], slot - firstSlot, locomotive);
                    return;
                }
                firstSlot += count + 1;
            }
        }

        private int stateOf(Yard yard) {
            int seen = 0;
            for (int i = 0; i < placeCount && i < MOST_PLANNED_PLACES; i++) {
                int count = yard.countAt(places[i]);
                for (int index = 0; index < count; index++) {
                    int locomotive = yard.locomotiveAt(places[i], index);
                    if (locomotive >= 0 && locomotive < MOST_PLANNED_LOCOMOTIVES) {
                        int earlier = (1 << locomotive) - 1;
                        lineSlots[locomotive] = i + Integer.bitCount(seen & earlier);
                        seen |= 1 << locomotive;
                    }
                }
            }
            int rest = 0;
            for (int i = Math.min(yard.locomotiveCount, MOST_PLANNED_LOCOMOTIVES) - 1; i >= 0; i--) {
                rest = rest * waysToPut(i) + lineSlots[i];
            }
            return rest * POSITIONS + yard.endA;
        }

        /** In the order of their codes. */
        private void listNeighbours(int state) {
            found = 0;
            int endA = Math.floorMod(state, POSITIONS);
            addNeighbour(CLOCKWISE, state - endA + (endA + 1) % POSITIONS);
            addNeighbour(COUNTERCLOCKWISE, state - endA + (endA + POSITIONS - 1) % POSITIONS);
            view.endA = endA;
            boolean trackAtA = view.lengthAt(view.positionAt(END_A)) > 0;
            boolean trackAtB = view.lengthAt(view.positionAt(END_B)) > 0;
            if (trackAtA || trackAtB) {
                showRows(state);
                addMovements(IN_AT_A);
                addMovements(IN_AT_B);
                addMovements(OUT_AT_A);
                addMovements(OUT_AT_B);
            }
        }

        private void addMovements(int kind) {
            int most = Math.min(view.countAt(view.sourceOf(kind)), MOST_PLANNED_LOCOMOTIVES);
            for (int count = 1; count <= most; count++) {
                if (view.movementError(kind, count) == POSSIBLE) {
                    view.shift(kind, count);
                    addNeighbour(kind + count, stateOf(view));
                    view.shift(reverseOf(kind), count);
                }
            }
        }

        private void addNeighbour(int code, int state) {
            if (found >= 0 && found < MOST_NEIGHBOURS) {
                codes[found] = code;
                neighbours[found] = state;
                found++;
            }
        }

        private void improveNeighbours(int cost) {
            for (int i = 0; i < found && i < MOST_NEIGHBOURS; i++) {
                StateQueue queue = codes[i] <= COUNTERCLOCKWISE ? afterTurns : afterMovements;
                improve(neighbours[i], cost + costOfAction(codes[i]), queue);
            }
        }

        private void improve(int state, int cost, StateQueue queue) {
            if (state >= 0 && state < stateCount && state < MOST_STATES && cost < costs[state]) {
                costs[state] = cost;
                queue.add(state);
            }
        }

        private int firstOnBestPlan(int cost) {
            for (int i = 0; i < found && i < MOST_NEIGHBOURS; i++) {
                int rest = costOf(neighbours[i]);
                if (rest != UNREACHED && rest + costOfAction(codes[i]) == cost) {
                    return i;
                }
            }
            return NONE;
        }

        private StateQueue nearerQueue() {
            return costOf(afterTurns.first()) < costOf(afterMovements.first()) ? afterTurns : afterMovements;
        }

        private int costOf(int state) {
            return state >= 0 && state < MOST_STATES ? costs[state] : UNREACHED;
        }

        private static int costOfAction(int code) {
            return code <= COUNTERCLOCKWISE ? TURN_WEIGHT + 1 : 1;
        }
    }
}
