import java.util.Arrays;

/**
 * Variables laid in cells so that registers step from one to the next one for nothing.
 *
 * <p>A set is a number: bit i tells whether i is in it. All rows are made by the constructors and used
 * again, so that no call makes an object.
 */
public final class StepRegisters {
    public static final int UNKNOWN = -1, OUTSIDE = -2, STATE = -3, FULL = -4, NO = -5, NONE = -6;
    public static final long GONE = -10000000000L;

    private static final int VARIABLES = 7;
    private static final int EVERY_VARIABLE = (1 << VARIABLES) - 1;
    private static final int STATEMENTS = 10;
    private static final int SEEN_BY_ONE = 3;
    private static final int DISTANCES = 6;
    private static final int REGISTERS = 3;
    private static final int MODES = 2;
    private static final int IMAGES = 2;
    private static final int HAND_COUNTS = 10;

    private static final int COPY = 0;
    private static final int SUM = 1;
    private static final int DIFFERENCE = 2;
    private static final int PRODUCT = 3;
    private static final int LESSER = 4;

    private final State now;
    private final State[] images;
    private int kept;
    private final Sight seen;
    private final Walk walk;
    private final Planner planner;
    private final Greedy greedy;

    public StepRegisters() {
        now = new State();
        images = new State[IMAGES];
        for (int k = 0; k < IMAGES; k++) {
            images[k] = new State();
        }
        seen = new Sight();
        walk = new Walk();
        walk.measure(now);
        planner = new Planner(now, walk);
        greedy = new Greedy();
    }

    // ---- 1 the program

    public int put(int kind, int target, int left, int right) {
        if (kind < COPY || kind > LESSER) {
            return OUTSIDE;
        }
        if (!isVariable(target) || !isVariable(left) || (kind != COPY && !isVariable(right))) {
            return UNKNOWN;
        }
        if (now.size >= STATEMENTS) {
            return FULL;
        }
        now.append(kind, target, left, kind == COPY ? left : right);
        changed();
        return now.size - 1;
    }

    public int drop(int statement) {
        if (!now.has(statement)) {
            return UNKNOWN;
        }
        now.remove(statement);
        changed();
        return now.size;
    }

    public int cross(int statement) {
        if (!now.has(statement)) {
            return UNKNOWN;
        }
        if (now.kinds[statement] == COPY) {
            return NO;
        }
        int left = now.lefts[statement];
        now.lefts[statement] = now.rights[statement];
        now.rights[statement] = left;
        changed();
        return statement;
    }

    public int told(int statement, int what) {
        if (!now.has(statement)) {
            return UNKNOWN;
        }
        switch (what) {
            case 0:
                return now.kinds[statement];
            case 1:
                return now.targets[statement];
            case 2:
                return now.lefts[statement];
            case 3:
                return now.kinds[statement] == COPY ? NONE : now.rights[statement];
            default:
                return OUTSIDE;
        }
    }

    public int free(int distance, int on) {
        if (distance < 1 || distance > DISTANCES || on < 0 || on > 1) {
            return OUTSIDE;
        }
        int without = now.freeSet & ~(1 << distance);
        int wanted = without | (on << distance);
        if (wanted != now.freeSet) {
            now.freeSet = wanted;
            changed();
        }
        return now.freeSet;
    }

    public int set(int variable, int value) {
        if (!isVariable(variable)) {
            return UNKNOWN;
        }
        now.values[variable] = value;
        int others = 0;
        for (int v = 0; v < VARIABLES; v++) {
            if (now.values[v] != 0) {
                others++;
            }
        }
        return others;
    }

    public long value(int variable) {
        return isVariable(variable) ? now.values[variable] : GONE + UNKNOWN;
    }

    public int sight(int i) {
        seen.look(now, 0);
        return seen.has(i) ? seen.variables[i] : NONE;
    }

    // ---- 2 plans

    public int plan(int r, int mode, int what) {
        if (!isPlan(r, mode) || what < 0 || what > 2) {
            return OUTSIDE;
        }
        Plan found = planner.planFor(r, mode);
        if (what == 0) {
            return found.cost;
        }
        return what == 1 ? found.filled : found.turned;
    }

    public int place(int r, int mode, int variable, int what) {
        if (!isVariable(variable) || (now.usedSet() >> variable & 1) == 0) {
            return UNKNOWN;
        }
        if (!isPlan(r, mode) || what < 0 || what > 1) {
            return OUTSIDE;
        }
        Plan found = planner.planFor(r, mode);
        return what == 0 ? found.registers[variable] : found.cells[variable];
    }

    public int step(int r, int mode, int i, int what) {
        if (!isPlan(r, mode) || what < 0 || what > 2) {
            return OUTSIDE;
        }
        Plan found = planner.planFor(r, mode);
        seen.look(now, found.turned);
        if (!seen.has(i)) {
            return NONE;
        }
        int variable = seen.variables[i];
        if (what == 0) {
            return variable;
        }
        int before = seen.before(i, found.registers);
        boolean load = before < 0 || now.isFar(found.cells[before], found.cells[variable]);
        if (what == 1) {
            return load ? 1 : 0;
        }
        return load ? 0 : found.cells[variable] - found.cells[before];
    }

    public int run(int r, int mode) {
        if (!isPlan(r, mode)) {
            return OUTSIDE;
        }
        // Where a VALUE lies and which side is SEEN first never changes a result: only the LOADS tell of THE PLAN.
        now.execute();
        return planner.planFor(r, mode).cost;
    }

    // ---- 3 other ones

    public int weight(int one, int other) {
        if (!isVariable(one) || !isVariable(other)) {
            return UNKNOWN;
        }
        return weights()[one * VARIABLES + other];
    }

    public int taken(int one, int other) {
        if (!isVariable(one) || !isVariable(other)) {
            return UNKNOWN;
        }
        greedy.take(weights());
        return greedy.has(one, other) ? 1 : 0;
    }

    public int exchange(int one, int other) {
        if (!isVariable(one) || !isVariable(other)) {
            return UNKNOWN;
        }
        int cell = now.hand[one];
        now.hand[one] = now.hand[other];
        now.hand[other] = cell;
        return now.hand[one];
    }

    public int hand(int mode) {
        if (!isMode(mode)) {
            return OUTSIDE;
        }
        walk.trace(now, EVERY_VARIABLE, mode == 0 ? 0 : now.turnable(), 0);
        return walk.cost(now.hand);
    }

    public int count(int what) {
        if (what >= HAND_COUNTS && what < HAND_COUNTS + VARIABLES) {
            return now.hand[what - HAND_COUNTS];
        }
        switch (what) {
            case 0:
                return now.size;
            case 1:
                seen.look(now, 0);
                return seen.length;
            case 2:
                return now.usedSet();
            case 3:
                greedy.take(weights());
                return first() + greedy.left;
            case 4:
                greedy.take(weights());
                return greedy.pairs;
            case 5:
                return first() + greedy.leftByGreatest(weights(), Integer.bitCount(now.usedSet()) - 1);
            case 6:
                return kept;
            default:
                return OUTSIDE;
        }
    }

    // ---- 4 images

    public int image(int k) {
        if (k < 0 || k >= IMAGES) {
            return OUTSIDE;
        }
        images[k].copyFrom(now);
        kept |= 1 << k;
        return 1;
    }

    public int restore(int k) {
        if (k < 0 || k >= IMAGES) {
            return OUTSIDE;
        }
        if ((kept >> k & 1) == 0) {
            return STATE;
        }
        now.copyFrom(images[k]);
        changed();
        return 1;
    }

    /** To be called when THE PROGRAM or FREE distances are other ones: what was found by them no longer holds. */
    private void changed() {
        walk.measure(now);
        planner.forget();
    }

    private static boolean isVariable(int number) {
        return number >= 0 && number < VARIABLES;
    }

    private static boolean isMode(int mode) {
        return mode >= 0 && mode < MODES;
    }

    private static boolean isPlan(int r, int mode) {
        return r >= 1 && r <= REGISTERS && isMode(mode);
    }

    /** The WEIGHTS of all pairs, good until the walk is traced again. */
    private int[] weights() {
        walk.trace(now, EVERY_VARIABLE, 0, 0);
        return walk.beside;
    }

    /** The 1 that the very first VARIABLE costs, if there is one. */
    private int first() {
        return now.size > 0 ? 1 : 0;
    }

    /** All that an IMAGE keeps: THE PROGRAM, FREE distances, VALUES and HAND. */
    private static final class State {
        int size;
        final int[] kinds = new int[STATEMENTS];
        final int[] targets = new int[STATEMENTS];
        final int[] lefts = new int[STATEMENTS];
        final int[] rights = new int[STATEMENTS];
        int freeSet = 1 << 1;
        final int[] values = new int[VARIABLES];
        final int[] hand = new int[VARIABLES];

        State() {
            for (int v = 0; v < VARIABLES; v++) {
                hand[v] = v;
            }
        }

        boolean has(int statement) {
            return statement >= 0 && statement < size;
        }

        void append(int kind, int target, int left, int right) {
            kinds[size] = kind;
            targets[size] = target;
            lefts[size] = left;
            rights[size] = right;
            size++;
        }

        void remove(int statement) {
            size--;
            int behind = size - statement;
            System.arraycopy(kinds, statement + 1, kinds, statement, behind);
            System.arraycopy(targets, statement + 1, targets, statement, behind);
            System.arraycopy(lefts, statement + 1, lefts, statement, behind);
            System.arraycopy(rights, statement + 1, rights, statement, behind);
        }

        void copyFrom(State other) {
            size = other.size;
            System.arraycopy(other.kinds, 0, kinds, 0, STATEMENTS);
            System.arraycopy(other.targets, 0, targets, 0, STATEMENTS);
            System.arraycopy(other.lefts, 0, lefts, 0, STATEMENTS);
            System.arraycopy(other.rights, 0, rights, 0, STATEMENTS);
            freeSet = other.freeSet;
            System.arraycopy(other.values, 0, values, 0, VARIABLES);
            System.arraycopy(other.hand, 0, hand, 0, VARIABLES);
        }

        int usedSet() {
            int used = 0;
            for (int s = 0; s < size; s++) {
                // A COPY's RIGHT is kept as its LEFT, so it adds nothing here.
                used |= 1 << targets[s] | 1 << lefts[s] | 1 << rights[s];
            }
            return used;
        }

        /** The STATEMENTS that a PLAN of MODE 1 may turn. */
        int turnable() {
            int able = 0;
            for (int s = 0; s < size; s++) {
                if (kinds[s] != COPY && kinds[s] != DIFFERENCE && lefts[s] != rights[s]) {
                    able |= 1 << s;
                }
            }
            return able;
        }

        boolean isFar(int cell, int other) {
            return cell != other && (freeSet >> Math.abs(cell - other) & 1) == 0;
        }

        void execute() {
            for (int s = 0; s < size; s++) {
                values[targets[s]] = result(kinds[s], values[lefts[s]], values[rights[s]]);
            }
        }

        private static int result(int kind, int left, int right) {
            switch (kind) {
                case SUM:
                    return left + right;
                case DIFFERENCE:
                    return left - right;
                case PRODUCT:
                    return left * right;
                case LESSER:
                    return Math.min(left, right);
                default:
                    return left;
            }
        }
    }

    /** THE SIGHT with some STATEMENTS TURNED. */
    private static final class Sight {
        final int[] variables = new int[STATEMENTS * SEEN_BY_ONE];
        int length;

        void look(State state, int turned) {
            length = 0;
            for (int s = 0; s < state.size; s++) {
                boolean turn = (turned >> s & 1) != 0;
                add(turn ? state.rights[s] : state.lefts[s]);
                if (state.kinds[s] != COPY) {
                    add(turn ? state.lefts[s] : state.rights[s]);
                }
                add(state.targets[s]);
            }
        }

        boolean has(int i) {
            return i >= 0 && i < length;
        }

        /** The VARIABLE of the same REGISTER that was SEEN last before the i-th one; -1: none was. */
        int before(int i, int[] registers) {
            int register = registers[variables[i]];
            for (int j = i - 1; j >= 0; j--) {
                if (registers[variables[j]] == register) {
                    return variables[j];
                }
            }
            return -1;
        }

        private void add(int variable) {
            variables[length] = variable;
            length++;
        }
    }

    /**
     * The way of one REGISTER through THE SIGHT of its VARIABLES alone, STATEMENTS that may be TURNED left open.
     *
     * <p>Only a STATEMENT whose LEFT and RIGHT are both of the REGISTER is worth turning: any other one is seen by
     * each REGISTER in the same order either way. So REGISTERS never share a choice. What is beside each other
     * whatever is turned is counted in pairs; what hangs on choices is kept as a row of forks (LEFT and RIGHT in
     * either order) and joins (one VARIABLE behind a fork).
     */
    private static final class Walk {
        /** Stands for a VARIABLE that is not there; its cell, too, is NOWHERE. */
        static final int NOWHERE = VARIABLES;
        private static final int CELLS = VARIABLES + 1;
        private static final int CHAINED = -1;
        private static final int JOIN = -1;

        final int[] beside = new int[VARIABLES * VARIABLES];
        /** By cell times CELLS and other cell: 1 if these are FAR; never so of NOWHERE. */
        private final int[] far = new int[CELLS * CELLS];
        private final int[] from = new int[STATEMENTS * 2];
        private final int[] one = new int[STATEMENTS * 2];
        private final int[] other = new int[STATEMENTS * 2];
        private final int[] laid = new int[VARIABLES + 1];
        private int forks;
        private int members;
        private int last;
        private boolean open;

        void trace(State state, int variables, int mayTurn, int turned) {
            Arrays.fill(beside, 0);
            forks = 0;
            members = variables;
            last = NOWHERE;
            open = false;
            for (int s = 0; s < state.size; s++) {
                int left = state.lefts[s];
                int right = state.rights[s];
                if ((mayTurn >> s & 1) != 0 && has(left) && has(right)) {
                    fork(left, right);
                } else if ((turned >> s & 1) != 0) {
                    pass(right);
                    pass(left);
                } else {
                    pass(left);
                    // A COPY's RIGHT is kept as its LEFT: seeing it again is as not seeing it.
                    pass(right);
                }
                pass(state.targets[s]);
            }
        }

        /** The COST if VARIABLES lie in these cells. */
        int cost(int[] cells) {
            if (last == NOWHERE && !open) {
                return 0;
            }
            System.arraycopy(cells, 0, laid, 0, VARIABLES);
            laid[NOWHERE] = NOWHERE;
            int sum = 1 + forkCost(laid);
            for (int v = 1; v < VARIABLES; v++) {
                sum += pairCost(v, laid);
            }
            return sum;
        }

        /** What the pairs of a VARIABLE with lesser ones cost, those that lie NOWHERE being free. */
        int pairCost(int variable, int[] cells) {
            int sum = 0;
            int row = cells[variable] * CELLS;
            for (int u = 0; u < variable; u++) {
                sum += beside[variable * VARIABLES + u] * far[row + cells[u]];
            }
            return sum;
        }

        /** The least that forks and joins cost, VARIABLES that lie NOWHERE being free. */
        int forkCost(int[] cells) {
            int sum = 0;
            int endA = NOWHERE;
            int endB = NOWHERE;
            int costA = 0;
            int costB = 0;
            for (int f = 0; f < forks; f++) {
                int x = cells[one[f]];
                if (from[f] != CHAINED) {
                    endA = cells[from[f]];
                    endB = endA;
                    costA = sum;
                    costB = sum;
                }
                int toX = Math.min(costA + far[endA * CELLS + x], costB + far[endB * CELLS + x]);
                if (other[f] == JOIN) {
                    sum = toX;
                    costA = toX;
                    costB = toX;
                } else {
                    int y = cells[other[f]];
                    costB = Math.min(costA + far[endA * CELLS + y], costB + far[endB * CELLS + y]);
                    costA = toX;
                    endA = y;
                    endB = x;
                }
            }
            return Math.min(costA, costB);
        }

        /** Whether all other cells up to the end are FAR from both cells or from neither. */
        boolean areTwins(int cell, int second, int end) {
            for (int c = 0; c < end; c++) {
                if (c != cell && c != second && far[c * CELLS + cell] != far[c * CELLS + second]) {
                    return false;
                }
            }
            return true;
        }

        private boolean has(int variable) {
            return (members >> variable & 1) != 0;
        }

        private void pass(int variable) {
            if (!has(variable)) {
                return;
            }
            if (open) {
                addFork(CHAINED, variable, JOIN);
                open = false;
            } else if (last != NOWHERE && last != variable) {
                pair(last, variable);
            }
            last = variable;
        }

        private void fork(int left, int right) {
            addFork(open ? CHAINED : last, left, right);
            pair(left, right);
            open = true;
        }

        private void pair(int u, int v) {
            beside[u * VARIABLES + v]++;
            beside[v * VARIABLES + u]++;
        }

        private void addFork(int start, int x, int y) {
            from[forks] = start;
            one[forks] = x;
            other[forks] = y;
            forks++;
        }

        /** To be called when FREE distances have changed. */
        void measure(State state) {
            for (int a = 0; a < NOWHERE; a++) {
                for (int b = 0; b < NOWHERE; b++) {
                    far[a * CELLS + b] = state.isFar(a, b) ? 1 : 0;
                }
            }
        }
    }

    /** Searches the cells of one REGISTER's VARIABLES. */
    private static final class Laying {
        static final int CELL_BITS = 3;
        static final int CELL_MASK = (1 << CELL_BITS) - 1;

        private final Walk walk;
        private final int[] cells = new int[VARIABLES + 1];
        private final int[] members = new int[VARIABLES];
        /** By cell: the lesser cells that could be exchanged with it, whatever lies in them, for the same COST. */
        private final int[] twins = new int[VARIABLES];
        private int size;
        private int least;
        /** The cells of the least COST, CELL_BITS for each VARIABLE. */
        int layout;

        Laying(Walk walk) {
            this.walk = walk;
            Arrays.fill(cells, Walk.NOWHERE);
        }

        /** The least COST of these VARIABLES, its first cells left in layout; the limit, if none is below it. */
        int leastBelow(int limit, State state, int variables, int mayTurn) {
            walk.trace(state, variables, mayTurn, 0);
            size = 0;
            for (int v = 0; v < VARIABLES; v++) {
                if ((variables >> v & 1) != 0) {
                    members[size] = v;
                    size++;
                }
            }
            least = limit - 1;
            if (size > 0) {
                findTwins();
                lay(0, 0, 0);
            }
            return least + 1;
        }

        private void findTwins() {
            for (int cell = 0; cell < size; cell++) {
                twins[cell] = 0;
                for (int lesser = 0; lesser < cell; lesser++) {
                    if (walk.areTwins(lesser, cell, size)) {
                        twins[cell] |= 1 << lesser;
                    }
                }
            }
        }

        /** Cells are tried as they rise and only what is better is kept, so the first of as cheap ones stays. */
        private void lay(int depth, int takenCells, int sum) {
            int variable = members[depth];
            // A layout seen in a mirror costs the same, so the first VARIABLE never lies beyond the middle.
            int end = depth == 0 ? (size + 1) / 2 : size;
            // One cell is left for the last VARIABLE, so forks are asked with it, not right before it.
            boolean asksForks = depth + 2 != size;
            for (int cell = 0; cell < end; cell++) {
                // An empty twin that is less would do as well, and was tried before.
                if ((takenCells >> cell & 1) != 0 || (twins[cell] & ~takenCells) != 0) {
                    continue;
                }
                cells[variable] = cell;
                int pairs = sum + walk.pairCost(variable, cells);
                int all = pairs;
                if (all < least && asksForks) {
                    all += walk.forkCost(cells);
                }
                if (all < least && depth + 1 < size) {
                    lay(depth + 1, takenCells | 1 << cell, pairs);
                } else if (all < least) {
                    least = all;
                    keep();
                }
            }
            cells[variable] = Walk.NOWHERE;
        }

        private void keep() {
            layout = 0;
            for (int i = 0; i < size; i++) {
                layout |= cells[members[i]] << members[i] * CELL_BITS;
            }
        }
    }

    /** THE PLAN for one R and one MODE. */
    private static final class Plan {
        boolean ready;
        int cost;
        int filled;
        int turned;
        final int[] registers = new int[VARIABLES];
        final int[] cells = new int[VARIABLES];
    }

    /** Finds PLANS and keeps them until THE PROGRAM or the FREE distances change. */
    private static final class Planner {
        private static final int UNSEARCHED = -1;
        /** Above every COST. */
        private static final int ENDLESS = 1000;

        private final State state;
        private final Walk walk;
        private final Laying laying;
        private final Plan[] plans = new Plan[REGISTERS * MODES];
        /** By MODE and set of VARIABLES: a COST that one REGISTER of these has at the least. */
        private final int[][] floors = new int[MODES][1 << VARIABLES];
        /** By MODE and set of VARIABLES: the cells by which the floor is reached, or UNSEARCHED. */
        private final int[][] layouts = new int[MODES][1 << VARIABLES];
        private final int[] blocks = new int[REGISTERS];
        private final int[] bestBlocks = new int[REGISTERS];
        private final int[] used = new int[VARIABLES];
        private int usedCount;
        /** How many VARIABLES a REGISTER is given at the most. */
        private int widest;
        private int registers;
        private int mode;
        private int mayTurn;
        private int best;
        private int bestFilled;

        Planner(State state, Walk walk) {
            this.state = state;
            this.walk = walk;
            laying = new Laying(walk);
            for (int p = 0; p < plans.length; p++) {
                plans[p] = new Plan();
            }
            forget();
        }

        void forget() {
            for (int p = 0; p < plans.length; p++) {
                plans[p].ready = false;
            }
            for (int m = 0; m < MODES; m++) {
                Arrays.fill(floors[m], 1);
                Arrays.fill(layouts[m], UNSEARCHED);
            }
        }

        /** R and the MODE are as told. */
        Plan planFor(int r, int wantedMode) {
            Plan plan = plans[(r - 1) * MODES + wantedMode];
            if (!plan.ready) {
                registers = r;
                mode = wantedMode;
                mayTurn = mode == 0 ? 0 : state.turnable();
                best = ENDLESS;
                listUsed();
                // Small blocks are quickly searched, and what they cost keeps the search of large ones short.
                widest = (usedCount + registers - 1) / registers;
                divide(0, 0);
                best++;
                widest = usedCount;
                divide(0, 0);
                write(plan);
                plan.ready = true;
            }
            return plan;
        }

        private void listUsed() {
            int usedSet = state.usedSet();
            usedCount = 0;
            for (int v = 0; v < VARIABLES; v++) {
                if ((usedSet >> v & 1) != 0) {
                    used[usedCount] = v;
                    usedCount++;
                }
            }
        }

        /**
         * Gives each VARIABLE its REGISTER, the least first. A REGISTER that is new is always the next one: by another
         * one the PLAN would cost the same and its REGISTERS would be greater.
         */
        private void divide(int depth, int filled) {
            if (depth >= usedCount) {
                compare(filled);
                return;
            }
            int variable = 1 << used[depth];
            int end = Math.min(filled + 1, registers);
            for (int g = 0; g < end; g++) {
                if (Integer.bitCount(blocks[g]) < widest) {
                    blocks[g] |= variable;
                    divide(depth + 1, Math.max(filled, g + 1));
                    blocks[g] &= ~variable;
                }
            }
        }

        /** Keeps the blocks, if they cost less than the best ones; cells are searched no further than that asks. */
        private void compare(int filled) {
            int sum = 0;
            for (int g = 0; g < filled; g++) {
                sum += floors[mode][blocks[g]];
            }
            for (int g = 0; g < filled && sum < best; g++) {
                int block = blocks[g];
                if (layouts[mode][block] == UNSEARCHED) {
                    int others = sum - floors[mode][block];
                    int limit = best - others;
                    int cost = laying.leastBelow(limit, state, block, mayTurn);
                    floors[mode][block] = cost;
                    if (cost < limit) {
                        layouts[mode][block] = laying.layout;
                    }
                    sum = others + cost;
                }
            }
            if (sum < best) {
                best = sum;
                bestFilled = filled;
                System.arraycopy(blocks, 0, bestBlocks, 0, REGISTERS);
            }
        }

        private void write(Plan plan) {
            plan.cost = best;
            plan.filled = bestFilled;
            plan.turned = 0;
            for (int g = 0; g < bestFilled; g++) {
                int block = bestBlocks[g];
                for (int v = 0; v < VARIABLES; v++) {
                    if ((block >> v & 1) != 0) {
                        plan.registers[v] = g;
                        plan.cells[v] = layouts[mode][block] >> v * Laying.CELL_BITS & Laying.CELL_MASK;
                    }
                }
            }
            for (int g = 0; g < bestFilled; g++) {
                plan.turned |= turnedIn(bestBlocks[g], plan.cells);
            }
        }

        /** The STATEMENTS to turn for one REGISTER: each in its turn is left as it is, if the least COST allows it. */
        private int turnedIn(int block, int[] cells) {
            int undecided = mayTurn;
            int turned = 0;
            for (int s = 0; s < state.size; s++) {
                int bit = 1 << s;
                if ((undecided & bit) != 0) {
                    undecided &= ~bit;
                    walk.trace(state, block, undecided, turned);
                    if (walk.cost(cells) > floors[mode][block]) {
                        turned |= bit;
                    }
                }
            }
            return turned;
        }
    }

    /** The greedy way by WEIGHTS, and what BOUND leaves of them. */
    private static final class Greedy {
        private final boolean[] takenPairs = new boolean[VARIABLES * VARIABLES];
        private final int[] rest = new int[VARIABLES * VARIABLES];
        private final int[] degrees = new int[VARIABLES];
        /** VARIABLES that TAKEN pairs lead to from each other bear the same number. */
        private final int[] groups = new int[VARIABLES];
        int pairs;
        /** The WEIGHTS of all pairs that are not TAKEN, added. */
        int left;

        boolean has(int one, int other) {
            return takenPairs[one * VARIABLES + other];
        }

        void take(int[] weights) {
            Arrays.fill(degrees, 0);
            pairs = 0;
            left = load(weights);
            for (int p = 0; p < rest.length; p++) {
                takenPairs[p] = false;
            }
            for (int v = 0; v < VARIABLES; v++) {
                groups[v] = v;
            }
            int pair = greatest();
            for (int k = 0; k < rest.length && pair >= 0; k++) {
                int one = pair / VARIABLES;
                int other = pair % VARIABLES;
                if (degrees[one] < 2 && degrees[other] < 2 && groups[one] != groups[other]) {
                    join(one, other);
                    left -= rest[pair];
                }
                rest[pair] = 0;
                pair = greatest();
            }
        }

        /** What is left of all WEIGHTS without so many of the greatest ones. */
        int leftByGreatest(int[] weights, int many) {
            int sum = load(weights);
            for (int k = 0; k < many; k++) {
                int pair = greatest();
                if (pair >= 0) {
                    sum -= rest[pair];
                    rest[pair] = 0;
                }
            }
            return sum;
        }

        /** Each pair stands once, at its lesser VARIABLE's row; all WEIGHTS added. */
        private int load(int[] weights) {
            int sum = 0;
            Arrays.fill(rest, 0);
            for (int one = 0; one < VARIABLES; one++) {
                for (int other = one + 1; other < VARIABLES; other++) {
                    int pair = one * VARIABLES + other;
                    rest[pair] = weights[pair];
                    sum += weights[pair];
                }
            }
            return sum;
        }

        /** The first pair of the greatest WEIGHT in the rest; -1: all are 0. */
        private int greatest() {
            int found = -1;
            int most = 0;
            for (int p = 0; p < rest.length; p++) {
                if (rest[p] > most) {
                    most = rest[p];
                    found = p;
                }
            }
            return found;
        }

        private void join(int one, int other) {
            takenPairs[one * VARIABLES + other] = true;
            takenPairs[other * VARIABLES + one] = true;
            degrees[one]++;
            degrees[other]++;
            pairs++;
            int gone = groups[other];
            for (int v = 0; v < VARIABLES; v++) {
                if (groups[v] == gone) {
                    groups[v] = groups[one];
                }
            }
        }
    }
}
