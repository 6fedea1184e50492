import java.util.Arrays;

/**
 * An imager of slownesses between two boreholes. The document that this class keeps numbers its
 * promises; each public method is one of them.
 *
 * <p>Every public method first refuses wrong arguments, then saves the state if it is undoable, and
 * only then changes anything. Scripts ask the same questions about arguments (the is... methods)
 * without throwing. All arrays are made with the object and used again by every call.
 */
public final class SlownessImager {
    public static final int NONE = -1;

    private static final int MIN_SIDE = 2;
    private static final int MAX_SIDE = 8;
    private static final int MAX_CELLS = 64;
    private static final int MAX_NEIGHBOURS = 8;
    private static final int MAX_RAYS = 16;
    private static final int MAX_SLOWNESS = 100000;
    private static final int MAX_INCLINE = 10000;
    private static final long MAX_TIME = 100000000000L;
    private static final int MAX_WIDTH = 1000;
    private static final int MAX_SEED = 999999;
    private static final int MAX_RELAXATION = 2000;
    private static final int MAX_SWEEPS = 20;
    private static final int MAX_WEIGHT = 100;
    private static final int MAX_BYTE = 127;
    private static final int MAX_SCRIPT = 120;
    private static final int MAX_DIGITS = 6;
    private static final int SAVED_STATES = 4;

    private static final int FIRST_SIDE = 4;
    private static final int FIRST_SLOWNESS = 1000;
    private static final int FIRST_RELAXATION = 1000;

    private static final int ASCENDING = 0;
    private static final int DESCENDING = 1;
    private static final int BY_RESIDUAL = 2;
    private static final int AT_RANDOM = 3;

    private static final int RAY_VALUES = 5;
    private static final int TIME_VALUES = 2;
    private static final int CELL_VALUES = 4;
    private static final int SECTION_VALUES = 9;
    private static final int FIT_VALUES = 5;

    private static final int STRAIGHT = 1000;
    private static final int DIAGONAL = 1414;
    private static final int THOUSANDTHS = 1000;
    private static final int NOISE_UNIT = 1000;
    private static final long UNREACHED = 1L << 60;

    private static final int NO_FAULT = -1;
    private static final int FAULT_BASE = -10;
    private static final long FIRST_HASH = 11888;

    private final State now = new State();
    private final Grid grid = new Grid();
    private final Search search = new Search(grid);
    private final Ways ways = new Ways(now, grid, search);
    private final Readings readings = new Readings(now, ways);
    private final Changes changes = new Changes(now, grid, search, ways, readings);
    private final Sweeper sweeper = new Sweeper(now, ways, changes);
    private final History history = new History();
    private final Script script = new Script();

    public SlownessImager() {
        grid.lay(now.columns, now.rows);
    }

    // ---- section and rays

    public int begin(int columns, int rows) throws IllegalArgumentException {
        needRange(columns, MIN_SIDE, MAX_SIDE);
        needRange(rows, MIN_SIDE, MAX_SIDE);
        history.save(now);
        now.startAnew(columns, rows);
        layOut();
        return now.cellCount();
    }

    public int setCell(int cell, int slowness) throws IndexOutOfBoundsException, IllegalArgumentException {
        needCell(cell);
        needRange(slowness, 1, MAX_SLOWNESS);
        history.save(now);
        int previous = now.slowness[cell];
        changes.putSlowness(cell, slowness);
        return previous;
    }

    public int setTrue(int cell, int slowness) throws IndexOutOfBoundsException, IllegalArgumentException {
        needCell(cell);
        needRange(slowness, 1, MAX_SLOWNESS);
        history.save(now);
        int previous = now.trueSlowness[cell];
        now.trueSlowness[cell] = slowness;
        return previous;
    }

    public int slope(boolean isTrue, int a, int b, int c) throws IllegalArgumentException {
        needRange(a, 1, MAX_SLOWNESS);
        needRange(b, -MAX_INCLINE, MAX_INCLINE);
        needRange(c, -MAX_INCLINE, MAX_INCLINE);
        history.save(now);
        return changes.incline(isTrue, a, b, c);
    }

    public int setBounds(int lower, int upper) throws IllegalArgumentException {
        needRange(upper, 1, MAX_SLOWNESS);
        needRange(lower, 1, upper);
        history.save(now);
        now.lower = lower;
        now.upper = upper;
        return readings.cellsOutsideBounds();
    }

    public int addRay(int source, int receiver) throws IndexOutOfBoundsException, IllegalStateException {
        needRow(source);
        needRow(receiver);
        if (!hasRoomForRay()) {
            throw new IllegalStateException("there are 16 rays");
        }
        history.save(now);
        int number = now.rayCount;
        appendRay(source, receiver);
        return number;
    }

    public int setUsed(int ray, boolean used) throws IndexOutOfBoundsException {
        needRay(ray);
        history.save(now);
        now.used[ray] = used;
        return readings.activeRays();
    }

    public long setTime(int ray, long time) throws IndexOutOfBoundsException, IllegalArgumentException {
        needRay(ray);
        if (time != NONE && (time < 0 || time > MAX_TIME)) {
            throw new IllegalArgumentException("the time is out of range");
        }
        history.save(now);
        long previous = now.observed[ray];
        now.observed[ray] = time;
        return previous;
    }

    public int observe(int width, int seed) throws IllegalArgumentException {
        needRange(width, 0, MAX_WIDTH);
        needRange(seed, 0, MAX_SEED);
        history.save(now);
        changes.takeTimes(width, seed);
        return now.rayCount;
    }

    // ---- corrections

    public int setOrder(int relaxation, int order, int seed) throws IllegalArgumentException {
        needRange(relaxation, 1, MAX_RELAXATION);
        needRange(order, ASCENDING, AT_RANDOM);
        needRange(seed, 0, MAX_SEED);
        history.save(now);
        int previous = now.relaxation;
        now.relaxation = relaxation;
        now.order = order;
        now.chance = seed;
        return previous;
    }

    public int correct(int ray) throws IndexOutOfBoundsException, IllegalStateException {
        needRay(ray);
        needObserved(ray);
        history.save(now);
        return changes.project(ray);
    }

    public int sweep(int sweeps) throws IllegalArgumentException {
        needRange(sweeps, 1, MAX_SWEEPS);
        history.save(now);
        return sweeper.makeSweeps(sweeps);
    }

    public int smooth(int weight) throws IllegalArgumentException {
        needRange(weight, 1, MAX_WEIGHT);
        history.save(now);
        return changes.smoothOut(weight);
    }

    public int fill() {
        history.save(now);
        return changes.fillGaps();
    }

    // ---- rays and their ways

    public int ray(int ray, int what) throws IndexOutOfBoundsException, IllegalArgumentException {
        needRay(ray);
        needRange(what, 0, RAY_VALUES - 1);
        switch (what) {
            case 0:
                return now.source[ray];
            case 1:
                return now.receiver[ray];
            case 2:
                return now.used[ray] ? 1 : 0;
            case 3:
                return now.isActive(ray) ? 1 : 0;
            default:
                ways.find(ray);
                return ways.counts[ray];
        }
    }

    public long time(int ray, int what) throws IndexOutOfBoundsException, IllegalArgumentException {
        needRay(ray);
        needRange(what, 0, TIME_VALUES - 1);
        if (what == 1) {
            return now.observed[ray];
        }
        return ways.find(ray);
    }

    public long residual(int ray) throws IndexOutOfBoundsException, IllegalStateException {
        needRay(ray);
        needObserved(ray);
        return now.observed[ray] - ways.find(ray);
    }

    public int wayCell(int ray, int index) throws IndexOutOfBoundsException, IllegalArgumentException {
        needRay(ray);
        if (index < 0) {
            throw new IllegalArgumentException("the index is negative");
        }
        ways.find(ray);
        return index < ways.counts[ray] ? ways.cells[ray][index] : NONE;
    }

    public int length(int ray, int cell) throws IndexOutOfBoundsException {
        needRay(ray);
        needCell(cell);
        ways.find(ray);
        return ways.lengths[ray][cell];
    }

    public long least(int from, int to, boolean isTrue) throws IndexOutOfBoundsException {
        needCell(from);
        needCell(to);
        return search.leastTime(isTrue ? now.trueSlowness : now.slowness, from, to);
    }

    // ---- values

    public int cell(int cell, int what) throws IndexOutOfBoundsException, IllegalArgumentException {
        needCell(cell);
        needRange(what, 0, CELL_VALUES - 1);
        switch (what) {
            case 0:
                return now.slowness[cell];
            case 1:
                return now.trueSlowness[cell];
            case 2:
                return readings.coverage(cell);
            default:
                return readings.lengthSum(cell);
        }
    }

    public int section(int what) throws IllegalArgumentException {
        needRange(what, 0, SECTION_VALUES - 1);
        switch (what) {
            case 0:
                return now.columns;
            case 1:
                return now.rows;
            case 2:
                return now.rayCount;
            case 3:
                return readings.activeRays();
            case 4:
                return readings.uncoveredCells();
            case 5:
                return now.lower;
            case 6:
                return now.upper;
            case 7:
                return now.relaxation;
            default:
                return now.order;
        }
    }

    public long fit(int what) throws IllegalArgumentException {
        needRange(what, 0, FIT_VALUES - 1);
        switch (what) {
            case 0:
                return readings.misfitSum();
            case 1:
                return readings.greatestMisfit();
            case 2:
                return readings.worstRay();
            case 3:
                return readings.distanceFromTruth();
            default:
                return readings.slownessSum();
        }
    }

    public long whatIf(int ray, int cell, int slowness)
            throws IndexOutOfBoundsException, IllegalArgumentException {
        needRay(ray);
        needCell(cell);
        needRange(slowness, 1, MAX_SLOWNESS);
        return ways.delayWith(ray, cell, slowness);
    }

    // ---- scripts, undo and checksum

    public int type(int value) throws IllegalArgumentException, IllegalStateException {
        needRange(value, 0, MAX_BYTE);
        if (script.size >= MAX_SCRIPT) {
            throw new IllegalStateException("the script has 120 bytes");
        }
        script.append(value);
        return script.size;
    }

    public int clearScript() {
        int previous = script.size;
        script.size = 0;
        return previous;
    }

    public int run() {
        int fault = script.parse();
        if (fault != NO_FAULT) {
            return FAULT_BASE - fault;
        }
        history.save(now);
        int done = 0;
        while (done < script.commandCount && carryOut(done)) {
            done++;
        }
        return done;
    }

    public int undo() throws IllegalStateException {
        if (history.count == 0) {
            throw new IllegalStateException("the undo stack is empty");
        }
        history.restore(now);
        layOut();
        return history.count;
    }

    public long digest() {
        long hash = FIRST_HASH;
        hash = 31 * hash + history.count;
        hash = 31 * hash + script.size;
        for (int what = 0; what < SECTION_VALUES; what++) {
            hash = 31 * hash + section(what);
        }
        hash = 31 * hash + now.chance;
        hash = hashCells(hash);
        hash = hashRays(hash);
        for (int what = 0; what < FIT_VALUES; what++) {
            hash = 31 * hash + fit(what);
        }
        return hash;
    }

    private long hashCells(long start) {
        long hash = start;
        for (int cell = 0; cell < now.cellCount(); cell++) {
            for (int what = 0; what < CELL_VALUES; what++) {
                hash = 31 * hash + cell(cell, what);
            }
        }
        return hash;
    }

    private long hashRays(long start) {
        long hash = start;
        for (int ray = 0; ray < now.rayCount; ray++) {
            for (int what = 0; what < RAY_VALUES; what++) {
                hash = 31 * hash + ray(ray, what);
            }
            for (int what = 0; what < TIME_VALUES; what++) {
                hash = 31 * hash + time(ray, what);
            }
            for (int i = 0; i < ways.counts[ray]; i++) {
                hash = 31 * hash + ways.cells[ray][i];
            }
        }
        return hash;
    }

    // ---- questions about arguments, and refusals

    private static boolean isWithin(int value, int least, int most) {
        return value >= least && value <= most;
    }

    private boolean isCell(int cell) {
        return isWithin(cell, 0, now.cellCount() - 1);
    }

    private boolean isRow(int row) {
        return isWithin(row, 0, now.rows - 1);
    }

    private boolean isRay(int ray) {
        return isWithin(ray, 0, now.rayCount - 1);
    }

    private boolean hasRoomForRay() {
        return now.rayCount < MAX_RAYS;
    }

    private static void needRange(int value, int least, int most) {
        if (!isWithin(value, least, most)) {
            throw new IllegalArgumentException("an argument is out of range");
        }
    }

    private void needCell(int cell) {
        if (!isCell(cell)) {
            throw new IndexOutOfBoundsException("there is no such cell");
        }
    }

    private void needRow(int row) {
        if (!isRow(row)) {
            throw new IndexOutOfBoundsException("there is no such row");
        }
    }

    private void needRay(int ray) {
        if (!isRay(ray)) {
            throw new IndexOutOfBoundsException("there is no such ray");
        }
    }

    private void needObserved(int ray) {
        if (now.observed[ray] == NONE) {
            throw new IllegalStateException("the ray has no observed time");
        }
    }

    // ---- changes that the face and scripts share

    private void layOut() {
        grid.lay(now.columns, now.rows);
        ways.forgetAll();
    }

    private void appendRay(int source, int receiver) {
        int number = now.rayCount;
        now.source[number] = source;
        now.receiver[number] = receiver;
        now.observed[number] = NONE;
        now.used[number] = true;
        now.rayCount = number + 1;
        ways.forgetAll();
    }

    /** Carries out a command of the script, unless it would throw; tells whether it did. */
    private boolean carryOut(int command) {
        Word word = script.words[command];
        int first = script.firsts[command];
        int second = script.seconds[command];
        if (word == null || !isPossible(word, first, second)) {
            return false;
        }
        switch (word) {
            case RAY:
                appendRay(first, second);
                break;
            case CELL:
                changes.putSlowness(first, second);
                break;
            case TRUE:
                now.trueSlowness[first] = second;
                break;
            case TAKE:
                changes.takeTimes(first, first);
                break;
            case SWEEP:
                sweeper.makeSweeps(first);
                break;
            case SMOOTH:
                changes.smoothOut(first);
                break;
            case FILL:
                changes.fillGaps();
                break;
            default:
                now.used[first] = second != 0;
                break;
        }
        return true;
    }

    private boolean isPossible(Word word, int first, int second) {
        switch (word) {
            case RAY:
                return isRow(first) && isRow(second) && hasRoomForRay();
            case CELL:
            case TRUE:
                return isCell(first) && isWithin(second, 1, MAX_SLOWNESS);
            case TAKE:
                return isWithin(first, 0, MAX_WIDTH);
            case SWEEP:
                return isWithin(first, 1, MAX_SWEEPS);
            case SMOOTH:
                return isWithin(first, 1, MAX_WEIGHT);
            case FILL:
                return true;
            default:
                return isRay(first);
        }
    }

    // ---- arithmetic and lists

    private static long roundedQuotient(long a, long b) {
        return b > 0 ? Math.floorDiv(2 * a + b, 2 * b) : 0;
    }

    private static int clamped(long value, int least, int most) {
        if (value < least) {
            return least;
        }
        return value > most ? most : (int) value;
    }

    private static long nextChance(long chance) {
        return (1103515245L * chance + 12345) % 2147483648L;
    }

    private static long leadingPart(long chance) {
        return chance / 65536;
    }

    private static void turnRound(int[] list, int count) {
        for (int i = 0; i < count / 2; i++) {
            int other = count - 1 - i;
            int kept = list[i];
            list[i] = list[other];
            list[other] = kept;
        }
    }

    /** All that an undo brings back. */
    private static final class State {
        int columns = FIRST_SIDE;
        int rows = FIRST_SIDE;
        int lower = 1;
        int upper = MAX_SLOWNESS;
        int relaxation = FIRST_RELAXATION;
        int order = ASCENDING;
        long chance;
        int rayCount;
        final int[] slowness = new int[MAX_CELLS];
        final int[] trueSlowness = new int[MAX_CELLS];
        final int[] source = new int[MAX_RAYS];
        final int[] receiver = new int[MAX_RAYS];
        final long[] observed = new long[MAX_RAYS];
        final boolean[] used = new boolean[MAX_RAYS];

        State() {
            Arrays.fill(slowness, FIRST_SLOWNESS);
            Arrays.fill(trueSlowness, FIRST_SLOWNESS);
        }

        int cellCount() {
            return columns * rows;
        }

        int sourceCell(int ray) {
            return columns * source[ray];
        }

        int receiverCell(int ray) {
            return columns * receiver[ray] + columns - 1;
        }

        boolean isActive(int ray) {
            return used[ray] && observed[ray] != NONE;
        }

        void startAnew(int newColumns, int newRows) {
            columns = newColumns;
            rows = newRows;
            rayCount = 0;
            Arrays.fill(slowness, FIRST_SLOWNESS);
            Arrays.fill(trueSlowness, FIRST_SLOWNESS);
        }

        void copyFrom(State other) {
            columns = other.columns;
            rows = other.rows;
            lower = other.lower;
            upper = other.upper;
            relaxation = other.relaxation;
            order = other.order;
            chance = other.chance;
            rayCount = other.rayCount;
            System.arraycopy(other.slowness, 0, slowness, 0, MAX_CELLS);
            System.arraycopy(other.trueSlowness, 0, trueSlowness, 0, MAX_CELLS);
            System.arraycopy(other.source, 0, source, 0, MAX_RAYS);
            System.arraycopy(other.receiver, 0, receiver, 0, MAX_RAYS);
            System.arraycopy(other.observed, 0, observed, 0, MAX_RAYS);
            System.arraycopy(other.used, 0, used, 0, MAX_RAYS);
        }
    }

    /** The neighbours of each cell in ascending order, and the lengths of the moves to them. */
    private static final class Grid {
        int cellCount;
        final int[] counts = new int[MAX_CELLS];
        final int[][] neighbours = new int[MAX_CELLS][MAX_NEIGHBOURS];
        final int[][] moves = new int[MAX_CELLS][MAX_NEIGHBOURS];

        void lay(int columns, int rows) {
            cellCount = columns * rows;
            for (int row = 0; row < rows; row++) {
                for (int column = 0; column < columns; column++) {
                    layCell(column, row, columns, rows);
                }
            }
        }

        private void layCell(int column, int row, int columns, int rows) {
            int cell = columns * row + column;
            int count = 0;
            for (int y = Math.max(row - 1, 0); y <= Math.min(row + 1, rows - 1); y++) {
                for (int x = Math.max(column - 1, 0); x <= Math.min(column + 1, columns - 1); x++) {
                    if (x != column || y != row) {
                        neighbours[cell][count] = columns * y + x;
                        moves[cell][count] = x == column || y == row ? STRAIGHT : DIAGONAL;
                        count++;
                    }
                }
            }
            counts[cell] = count;
        }
    }

    /**
     * Least times from one cell, spread to the nearest cells first. The spreading stops at the
     * target: every cell on a way of least time to it is nearer, so its time stands by then.
     */
    private static final class Search {
        private final Grid grid;
        private final long[] leastTimes = new long[MAX_CELLS];
        private final int[] waiting = new int[MAX_CELLS];
        private int waitingCount;

        Search(Grid grid) {
            this.grid = grid;
        }

        long leastTime(int[] slowness, int from, int to) {
            Arrays.fill(leastTimes, UNREACHED);
            leastTimes[from] = 0;
            waiting[0] = from;
            waitingCount = 1;
            for (int step = 0; step < grid.cellCount && waitingCount > 0; step++) {
                int cell = takeNearest();
                if (cell == to) {
                    break;
                }
                reachNeighbours(slowness, cell);
            }
            return leastTimes[to];
        }

        private int takeNearest() {
            int place = 0;
            long nearest = leastTimes[waiting[0]];
            for (int i = 1; i < waitingCount; i++) {
                long time = leastTimes[waiting[i]];
                if (time < nearest) {
                    nearest = time;
                    place = i;
                }
            }
            int cell = waiting[place];
            waitingCount--;
            waiting[place] = waiting[waitingCount];
            return cell;
        }

        private void reachNeighbours(int[] slowness, int cell) {
            int[] neighbours = grid.neighbours[cell];
            int[] moves = grid.moves[cell];
            int count = grid.counts[cell];
            long start = leastTimes[cell];
            for (int i = 0; i < count; i++) {
                int other = neighbours[i];
                long time = start + (long) moves[i] * (slowness[cell] + slowness[other]);
                if (time < leastTimes[other]) {
                    if (leastTimes[other] == UNREACHED && waitingCount < MAX_CELLS) {
                        waiting[waitingCount] = other;
                        waitingCount++;
                    }
                    leastTimes[other] = time;
                }
            }
        }

        /** The place, among the neighbours of a cell, of the one before it on the way; or NONE. */
        int placeBefore(int[] slowness, int cell) {
            for (int i = 0; i < grid.counts[cell]; i++) {
                int other = grid.neighbours[cell][i];
                long move = (long) grid.moves[cell][i] * (slowness[cell] + slowness[other]);
                if (leastTimes[other] + move == leastTimes[cell]) {
                    return i;
                }
            }
            return NONE;
        }
    }

    /** The ways of the rays, found when they are asked for and kept until slownesses change. */
    private static final class Ways {
        private final State now;
        private final Grid grid;
        private final Search search;
        private final boolean[] known = new boolean[MAX_RAYS];
        private final int[] trial = new int[MAX_CELLS];
        private final long[] times = new long[MAX_RAYS];
        final int[] counts = new int[MAX_RAYS];
        final int[][] cells = new int[MAX_RAYS][MAX_CELLS];
        final int[][] lengths = new int[MAX_RAYS][MAX_CELLS];

        Ways(State now, Grid grid, Search search) {
            this.now = now;
            this.grid = grid;
            this.search = search;
        }

        void forgetAll() {
            for (int ray = 0; ray < MAX_RAYS; ray++) {
                known[ray] = false;
            }
        }

        /** Finds the way of a ray, unless it is known still; answers its time. */
        long find(int ray) {
            if (!known[ray]) {
                int from = now.sourceCell(ray);
                int to = now.receiverCell(ray);
                times[ray] = search.leastTime(now.slowness, from, to);
                traceBack(ray, from, to);
                turnRound(cells[ray], counts[ray]);
                known[ray] = true;
            }
            return times[ray];
        }

        /** Writes the way from its last cell to its first one. */
        private void traceBack(int ray, int from, int to) {
            int[] way = cells[ray];
            int[] inCell = lengths[ray];
            Arrays.fill(inCell, 0);
            way[0] = to;
            int count = 1;
            int cell = to;
            while (cell != from && count < MAX_CELLS) {
                int place = search.placeBefore(now.slowness, cell);
                if (place == NONE) {
                    break;
                }
                int before = grid.neighbours[cell][place];
                int move = grid.moves[cell][place];
                inCell[cell] += move;
                inCell[before] += move;
                way[count] = before;
                count++;
                cell = before;
            }
            counts[ray] = count;
        }

        /** How much longer the way of a ray would take if a cell had another slowness. */
        long delayWith(int ray, int cell, int slowness) {
            long time = find(ray);
            System.arraycopy(now.slowness, 0, trial, 0, MAX_CELLS);
            trial[cell] = slowness;
            return search.leastTime(trial, now.sourceCell(ray), now.receiverCell(ray)) - time;
        }
    }

    /** Counts, sums and measures of the present state. */
    private static final class Readings {
        private final State now;
        private final Ways ways;

        Readings(State now, Ways ways) {
            this.now = now;
            this.ways = ways;
        }

        int activeRays() {
            int count = 0;
            for (int ray = 0; ray < now.rayCount; ray++) {
                if (now.isActive(ray)) {
                    count++;
                }
            }
            return count;
        }

        int coverage(int cell) {
            int count = 0;
            for (int ray = 0; ray < now.rayCount; ray++) {
                if (now.isActive(ray)) {
                    ways.find(ray);
                    // A way has two cells at least, so each of its cells has a length.
                    if (ways.lengths[ray][cell] > 0) {
                        count++;
                    }
                }
            }
            return count;
        }

        int lengthSum(int cell) {
            int sum = 0;
            for (int ray = 0; ray < now.rayCount; ray++) {
                if (now.isActive(ray)) {
                    ways.find(ray);
                    sum += ways.lengths[ray][cell];
                }
            }
            return sum;
        }

        int uncoveredCells() {
            int count = 0;
            for (int cell = 0; cell < now.cellCount(); cell++) {
                if (coverage(cell) == 0) {
                    count++;
                }
            }
            return count;
        }

        int cellsOutsideBounds() {
            int count = 0;
            for (int cell = 0; cell < now.cellCount(); cell++) {
                if (!isWithin(now.slowness[cell], now.lower, now.upper)) {
                    count++;
                }
            }
            return count;
        }

        long misfitSum() {
            long sum = 0;
            for (int ray = 0; ray < now.rayCount; ray++) {
                if (now.isActive(ray)) {
                    sum += Math.abs(now.observed[ray] - ways.find(ray));
                }
            }
            return sum;
        }

        long greatestMisfit() {
            int worst = worstRay();
            return worst == NONE ? 0 : Math.abs(now.observed[worst] - ways.find(worst));
        }

        int worstRay() {
            int worst = NONE;
            long greatest = -1;
            for (int ray = 0; ray < now.rayCount; ray++) {
                if (now.isActive(ray)) {
                    long misfit = Math.abs(now.observed[ray] - ways.find(ray));
                    if (misfit > greatest) {
                        greatest = misfit;
                        worst = ray;
                    }
                }
            }
            return worst;
        }

        long distanceFromTruth() {
            long sum = 0;
            for (int cell = 0; cell < now.cellCount(); cell++) {
                sum += Math.abs(now.slowness[cell] - now.trueSlowness[cell]);
            }
            return sum;
        }

        long slownessSum() {
            long sum = 0;
            for (int cell = 0; cell < now.cellCount(); cell++) {
                sum += now.slowness[cell];
            }
            return sum;
        }
    }

    /** Changes of many cells or rays at once. What changes slownesses forgets the ways. */
    private static final class Changes {
        private final State now;
        private final Grid grid;
        private final Search search;
        private final Ways ways;
        private final Readings readings;
        private final int[] fresh = new int[MAX_CELLS];
        private final int[] coverages = new int[MAX_CELLS];

        Changes(State now, Grid grid, Search search, Ways ways, Readings readings) {
            this.now = now;
            this.grid = grid;
            this.search = search;
            this.ways = ways;
            this.readings = readings;
        }

        void putSlowness(int cell, int slowness) {
            now.slowness[cell] = slowness;
            ways.forgetAll();
        }

        int incline(boolean isTrue, int a, int b, int c) {
            for (int row = 0; row < now.rows; row++) {
                for (int column = 0; column < now.columns; column++) {
                    fresh[now.columns * row + column] = clamped(a + b * column + c * row, 1, MAX_SLOWNESS);
                }
            }
            return takeOver(isTrue ? now.trueSlowness : now.slowness);
        }

        /** Puts the fresh values in the place of old ones; answers how many are other ones. */
        private int takeOver(int[] old) {
            int changed = 0;
            for (int cell = 0; cell < now.cellCount(); cell++) {
                if (old[cell] != fresh[cell]) {
                    old[cell] = fresh[cell];
                    changed++;
                }
            }
            ways.forgetAll();
            return changed;
        }

        void takeTimes(int width, int seed) {
            long chance = seed;
            for (int ray = 0; ray < now.rayCount; ray++) {
                long time = search.leastTime(now.trueSlowness, now.sourceCell(ray), now.receiverCell(ray));
                chance = nextChance(chance);
                long noise = NOISE_UNIT * (leadingPart(chance) % (2 * width + 1) - width);
                now.observed[ray] = Math.max(time + noise, 0);
            }
        }

        /** Corrects by a ray that has an observed time; answers how many slownesses changed. */
        int project(int ray) {
            long residual = now.observed[ray] - ways.find(ray);
            int[] way = ways.cells[ray];
            int[] inCell = ways.lengths[ray];
            int count = ways.counts[ray];
            long squares = 0;
            for (int i = 0; i < count; i++) {
                squares += (long) inCell[way[i]] * inCell[way[i]];
            }
            int changed = 0;
            for (int i = 0; i < count; i++) {
                int cell = way[i];
                long rise = roundedQuotient(now.relaxation * residual * inCell[cell], THOUSANDTHS * squares);
                int corrected = clamped(now.slowness[cell] + rise, now.lower, now.upper);
                if (corrected != now.slowness[cell]) {
                    now.slowness[cell] = corrected;
                    changed++;
                }
            }
            if (changed > 0) {
                ways.forgetAll();
            }
            return changed;
        }

        int smoothOut(int weight) {
            for (int cell = 0; cell < now.cellCount(); cell++) {
                long sum = (long) weight * now.slowness[cell];
                int parts = weight;
                for (int i = 0; i < grid.counts[cell]; i++) {
                    if (grid.moves[cell][i] == STRAIGHT) {
                        sum += now.slowness[grid.neighbours[cell][i]];
                        parts++;
                    }
                }
                fresh[cell] = (int) roundedQuotient(sum, parts);
            }
            return takeOver(now.slowness);
        }

        int fillGaps() {
            for (int cell = 0; cell < now.cellCount(); cell++) {
                coverages[cell] = readings.coverage(cell);
            }
            for (int cell = 0; cell < now.cellCount(); cell++) {
                fresh[cell] = coverages[cell] == 0 ? meanAround(cell) : now.slowness[cell];
            }
            return takeOver(now.slowness);
        }

        /** The mean of the covered neighbours, or the cell's own slowness if there are none. */
        private int meanAround(int cell) {
            long sum = 0;
            int covered = 0;
            for (int i = 0; i < grid.counts[cell]; i++) {
                int other = grid.neighbours[cell][i];
                if (coverages[other] > 0) {
                    sum += now.slowness[other];
                    covered++;
                }
            }
            return covered == 0 ? now.slowness[cell] : (int) roundedQuotient(sum, covered);
        }
    }

    /** Sweeps over the active rays, in one of the four orders. */
    private static final class Sweeper {
        private final State now;
        private final Ways ways;
        private final Changes changes;
        private final int[] queue = new int[MAX_RAYS];
        private final long[] misfits = new long[MAX_RAYS];

        Sweeper(State now, Ways ways, Changes changes) {
            this.now = now;
            this.ways = ways;
            this.changes = changes;
        }

        int makeSweeps(int sweeps) {
            int made = 0;
            for (int i = 0; i < sweeps; i++) {
                int count = queueActive();
                arrange(count);
                for (int place = 0; place < count; place++) {
                    changes.project(queue[place]);
                }
                made += count;
            }
            return made;
        }

        /** Queues the active rays by ascending numbers, with their misfits if the order needs them. */
        private int queueActive() {
            boolean needsMisfits = now.order == BY_RESIDUAL;
            int count = 0;
            for (int ray = 0; ray < now.rayCount; ray++) {
                if (now.isActive(ray)) {
                    queue[count] = ray;
                    misfits[count] = needsMisfits ? Math.abs(now.observed[ray] - ways.find(ray)) : 0;
                    count++;
                }
            }
            return count;
        }

        private void arrange(int count) {
            switch (now.order) {
                case DESCENDING:
                    turnRound(queue, count);
                    break;
                case BY_RESIDUAL:
                    sortByMisfit(count);
                    break;
                case AT_RANDOM:
                    drawLots(count);
                    break;
                default:
                    break;
            }
        }

        /** Moves each ray before those with smaller misfits, so that equal ones keep their order. */
        private void sortByMisfit(int count) {
            for (int i = 1; i < count; i++) {
                int ray = queue[i];
                long misfit = misfits[i];
                int place = i;
                while (place > 0 && misfits[place - 1] < misfit) {
                    misfits[place] = misfits[place - 1];
                    queue[place] = queue[place - 1];
                    place--;
                }
                misfits[place] = misfit;
                queue[place] = ray;
            }
        }

        /** Draws ray after ray to the front; those that are left keep their ascending order. */
        private void drawLots(int count) {
            for (int drawn = 0; drawn < count; drawn++) {
                now.chance = nextChance(now.chance);
                int place = drawn + (int) (leadingPart(now.chance) % (count - drawn));
                int ray = queue[place];
                for (int i = place; i > drawn; i--) {
                    queue[i] = queue[i - 1];
                }
                queue[drawn] = ray;
            }
        }
    }

    /** The latest saved states, in a ring. */
    private static final class History {
        private final State[] saved = new State[SAVED_STATES];
        private int oldest;
        int count;

        History() {
            for (int i = 0; i < SAVED_STATES; i++) {
                saved[i] = new State();
            }
        }

        void save(State now) {
            State place = saved[(oldest + count) % SAVED_STATES];
            if (place == null) {
                return;
            }
            place.copyFrom(now);
            if (count < SAVED_STATES) {
                count++;
            } else {
                oldest = (oldest + 1) % SAVED_STATES;
            }
        }

        void restore(State now) {
            if (count == 0) {
                return;
            }
            count--;
            State latest = saved[(oldest + count) % SAVED_STATES];
            if (latest != null) {
                now.copyFrom(latest);
            }
        }
    }

    /** The words of scripts, and how many numbers follow each. */
    private enum Word {
        RAY("ray", 2),
        CELL("cell", 2),
        TRUE("true", 2),
        TAKE("take", 1),
        SWEEP("sweep", 1),
        SMOOTH("smooth", 1),
        FILL("fill", 0),
        USE("use", 2);

        private final String text;
        private final int numbers;

        Word(String text, int numbers) {
            this.text = text;
            this.numbers = numbers;
        }
    }

    /** The bytes of the script, and the commands that the latest parse found in them. */
    private static final class Script {
        private static final Word[] WORDS = Word.values();

        private final byte[] bytes = new byte[MAX_SCRIPT];
        int size;
        // A command takes five bytes at least, so there are always enough places.
        final Word[] words = new Word[MAX_SCRIPT];
        final int[] firsts = new int[MAX_SCRIPT];
        final int[] seconds = new int[MAX_SCRIPT];
        int commandCount;
        private int at;

        void append(int value) {
            if (size < MAX_SCRIPT) {
                bytes[size] = (byte) value;
                size++;
            }
        }

        /** Reads the script into commands; answers its fault, or NO_FAULT. */
        int parse() {
            at = 0;
            commandCount = 0;
            int fault = NO_FAULT;
            for (int i = 0; i < MAX_SCRIPT && fault == NO_FAULT; i++) {
                skipSpaces();
                if (at >= size) {
                    break;
                }
                fault = readCommand();
            }
            return fault;
        }

        /**
         * Reads one command. Wherever it stops short, the place where it stands is the fault: a
         * byte that cannot stand there, or the end of the script.
         */
        private int readCommand() {
            int start = at;
            skipLetters();
            Word word = wordBetween(start, at);
            if (word == null) {
                return start;
            }
            for (int i = 0; i < word.numbers; i++) {
                if (!skipSpaces() || !isDigitNext()) {
                    return at;
                }
                int number = readNumber();
                if (i == 0) {
                    firsts[commandCount] = number;
                } else {
                    seconds[commandCount] = number;
                }
            }
            skipSpaces();
            if (at >= size || bytes[at] != ';') {
                return at;
            }
            at++;
            words[commandCount] = word;
            commandCount++;
            return NO_FAULT;
        }

        /** Skips spaces; tells whether there were any. */
        private boolean skipSpaces() {
            int start = at;
            while (at < size && bytes[at] == ' ') {
                at++;
            }
            return at > start;
        }

        private void skipLetters() {
            while (at < size && bytes[at] >= 'a' && bytes[at] <= 'z') {
                at++;
            }
        }

        private boolean isDigitNext() {
            return at < size && bytes[at] >= '0' && bytes[at] <= '9';
        }

        /** Reads six digits at most, and leaves a seventh one standing as a fault. */
        private int readNumber() {
            int number = 0;
            for (int i = 0; i < MAX_DIGITS && isDigitNext(); i++) {
                number = 10 * number + bytes[at] - '0';
                at++;
            }
            return number;
        }

        private Word wordBetween(int start, int end) {
            for (int i = 0; i < WORDS.length; i++) {
                Word word = WORDS[i];
                if (word != null && isText(word.text, start, end)) {
                    return word;
                }
            }
            return null;
        }

        private boolean isText(String text, int start, int end) {
            if (text == null || text.length() != end - start) {
                return false;
            }
            for (int i = 0; i < text.length(); i++) {
                if (bytes[start + i] != text.charAt(i)) {
                    return false;
                }
            }
            return true;
        }
    }
}
