import java.math.BigInteger;
import java.util.ArrayDeque;
import java.util.ArrayList;
import java.util.Comparator;
import java.util.Deque;
import java.util.List;

/**
 * The document once more, as plainly as can be and without a thought of speed: nothing is kept but
 * the state, every way is found anew, and undo keeps whole copies. Written to be compared with.
 */
final class Reference {
    static final class Ray {
        int source;
        int receiver;
        long time = -1;
        boolean used = true;

        Ray copy() {
            Ray other = new Ray();
            other.source = source;
            other.receiver = receiver;
            other.time = time;
            other.used = used;
            return other;
        }

        boolean isActive() {
            return used && time >= 0;
        }
    }

    static final class State {
        int w = 4;
        int h = 4;
        int[] slow = filled(16);
        int[] real = filled(16);
        List<Ray> rays = new ArrayList<>();
        int lower = 1;
        int upper = 100000;
        int relaxation = 1000;
        int order;
        long s;

        State copy() {
            State other = new State();
            other.w = w;
            other.h = h;
            other.slow = slow.clone();
            other.real = real.clone();
            for (Ray ray : rays) {
                other.rays.add(ray.copy());
            }
            other.lower = lower;
            other.upper = upper;
            other.relaxation = relaxation;
            other.order = order;
            other.s = s;
            return other;
        }

        static int[] filled(int size) {
            int[] values = new int[size];
            java.util.Arrays.fill(values, 1000);
            return values;
        }
    }

    private State st = new State();
    private final Deque<State> stack = new ArrayDeque<>();
    private final StringBuilder script = new StringBuilder();
    private boolean isRunning;

    private void save() {
        if (isRunning) {
            return;
        }
        stack.addLast(st.copy());
        if (stack.size() > 4) {
            stack.removeFirst();
        }
    }

    private static void arg(boolean isRight) {
        if (!isRight) {
            throw new IllegalArgumentException();
        }
    }

    private static void index(boolean isRight) {
        if (!isRight) {
            throw new IndexOutOfBoundsException();
        }
    }

    private static void state(boolean isRight) {
        if (!isRight) {
            throw new IllegalStateException();
        }
    }

    private boolean isCell(int c) {
        return 0 <= c && c <= st.w * st.h - 1;
    }

    private void rayIndex(int r) {
        index(0 <= r && r < st.rays.size());
    }

    // ---- ways

    private boolean areNeighbours(int a, int b) {
        return a != b && Math.abs(a % st.w - b % st.w) <= 1 && Math.abs(a / st.w - b / st.w) <= 1;
    }

    private int move(int a, int b) {
        return a % st.w == b % st.w || a / st.w == b / st.w ? 1000 : 1414;
    }

    /** Bellman and Ford: times from a cell to all, until none gets less. */
    private long[] times(int from, int[] slow) {
        long[] t = new long[st.w * st.h];
        java.util.Arrays.fill(t, Long.MAX_VALUE);
        t[from] = 0;
        boolean isChanged = true;
        while (isChanged) {
            isChanged = false;
            for (int a = 0; a < t.length; a++) {
                for (int b = Math.max(0, a - st.w - 1); b < Math.min(t.length, a + st.w + 2); b++) {
                    if (t[a] != Long.MAX_VALUE && areNeighbours(a, b)) {
                        long via = t[a] + (long) move(a, b) * slow[a] + (long) move(a, b) * slow[b];
                        if (via < t[b]) {
                            t[b] = via;
                            isChanged = true;
                        }
                    }
                }
            }
        }
        return t;
    }

    private List<Integer> way(Ray ray) {
        int from = st.w * ray.source;
        int to = st.w * ray.receiver + st.w - 1;
        long[] t = times(from, st.slow);
        List<Integer> way = new ArrayList<>();
        way.add(to);
        int last = to;
        while (last != from) {
            for (int c = 0; c < t.length; c++) {
                if (areNeighbours(c, last)
                        && t[c] + (long) move(c, last) * ((long) st.slow[c] + st.slow[last]) == t[last]) {
                    way.add(0, c);
                    last = c;
                    break;
                }
            }
        }
        return way;
    }

    private int[] lengths(Ray ray) {
        int[] l = new int[st.w * st.h];
        List<Integer> way = way(ray);
        for (int i = 1; i < way.size(); i++) {
            l[way.get(i - 1)] += move(way.get(i - 1), way.get(i));
            l[way.get(i)] += move(way.get(i - 1), way.get(i));
        }
        return l;
    }

    private long timeOf(Ray ray) {
        long sum = 0;
        int[] l = lengths(ray);
        for (int c = 0; c < l.length; c++) {
            sum += (long) l[c] * st.slow[c];
        }
        return sum;
    }

    private int[] covers() {
        int[] counts = new int[st.w * st.h];
        for (Ray ray : st.rays) {
            if (ray.isActive()) {
                for (int cell : way(ray)) {
                    counts[cell]++;
                }
            }
        }
        return counts;
    }

    private int[] sums() {
        int[] sums = new int[st.w * st.h];
        for (Ray ray : st.rays) {
            int[] l = lengths(ray);
            for (int c = 0; ray.isActive() && c < l.length; c++) {
                sums[c] += l[c];
            }
        }
        return sums;
    }

    private static long round(BigInteger a, BigInteger b) {
        BigInteger two = BigInteger.TWO;
        BigInteger[] parts = a.multiply(two).add(b).divideAndRemainder(b.multiply(two));
        long quotient = parts[0].longValueExact();
        return parts[1].signum() < 0 ? quotient - 1 : quotient;
    }

    private static long round(long a, long b) {
        return round(BigInteger.valueOf(a), BigInteger.valueOf(b));
    }

    // ---- the face

    int begin(int columns, int rows) {
        arg(2 <= columns && columns <= 8 && 2 <= rows && rows <= 8);
        save();
        st.w = columns;
        st.h = rows;
        st.slow = State.filled(columns * rows);
        st.real = State.filled(columns * rows);
        st.rays.clear();
        return columns * rows;
    }

    int setCell(int cell, int slowness) {
        index(isCell(cell));
        arg(1 <= slowness && slowness <= 100000);
        save();
        int old = st.slow[cell];
        st.slow[cell] = slowness;
        return old;
    }

    int setTrue(int cell, int slowness) {
        index(isCell(cell));
        arg(1 <= slowness && slowness <= 100000);
        save();
        int old = st.real[cell];
        st.real[cell] = slowness;
        return old;
    }

    int slope(boolean isTrue, int a, int b, int c) {
        arg(1 <= a && a <= 100000 && -10000 <= b && b <= 10000 && -10000 <= c && c <= 10000);
        save();
        int[] values = isTrue ? st.real : st.slow;
        int changed = 0;
        for (int cell = 0; cell < values.length; cell++) {
            int value = Math.min(100000, Math.max(1, a + b * (cell % st.w) + c * (cell / st.w)));
            changed += value == values[cell] ? 0 : 1;
            values[cell] = value;
        }
        return changed;
    }

    int setBounds(int lower, int upper) {
        arg(1 <= lower && lower <= upper && upper <= 100000);
        save();
        st.lower = lower;
        st.upper = upper;
        int outside = 0;
        for (int value : st.slow) {
            outside += value < lower || value > upper ? 1 : 0;
        }
        return outside;
    }

    int addRay(int source, int receiver) {
        index(0 <= source && source < st.h && 0 <= receiver && receiver < st.h);
        state(st.rays.size() < 16);
        save();
        Ray ray = new Ray();
        ray.source = source;
        ray.receiver = receiver;
        st.rays.add(ray);
        return st.rays.size() - 1;
    }

    int setUsed(int ray, boolean used) {
        rayIndex(ray);
        save();
        st.rays.get(ray).used = used;
        return section(3);
    }

    long setTime(int ray, long time) {
        rayIndex(ray);
        arg(-1 <= time && time <= 100000000000L);
        save();
        long old = st.rays.get(ray).time;
        st.rays.get(ray).time = time;
        return old;
    }

    int observe(int width, int seed) {
        arg(0 <= width && width <= 1000 && 0 <= seed && seed <= 999999);
        save();
        long t = seed;
        for (Ray ray : st.rays) {
            long time = times(st.w * ray.source, st.real)[st.w * ray.receiver + st.w - 1];
            t = Math.floorMod(1103515245L * t + 12345, 1L << 31);
            ray.time = Math.max(0, time + 1000 * ((t >> 16) % (2 * width + 1) - width));
        }
        return st.rays.size();
    }

    int setOrder(int relaxation, int order, int seed) {
        arg(1 <= relaxation && relaxation <= 2000 && 0 <= order && order <= 3 && 0 <= seed && seed <= 999999);
        save();
        int old = st.relaxation;
        st.relaxation = relaxation;
        st.order = order;
        st.s = seed;
        return old;
    }

    private int project(Ray ray) {
        long e = ray.time - timeOf(ray);
        int[] l = lengths(ray);
        BigInteger n = BigInteger.ZERO;
        for (int length : l) {
            n = n.add(BigInteger.valueOf(length).pow(2));
        }
        int changed = 0;
        for (int c = 0; c < l.length; c++) {
            if (l[c] > 0) {
                BigInteger a = BigInteger.valueOf(st.relaxation).multiply(BigInteger.valueOf(e))
                        .multiply(BigInteger.valueOf(l[c]));
                long value = st.slow[c] + round(a, n.multiply(BigInteger.valueOf(1000)));
                value = value < st.lower ? st.lower : value > st.upper ? st.upper : value;
                changed += value == st.slow[c] ? 0 : 1;
                st.slow[c] = (int) value;
            }
        }
        return changed;
    }

    int correct(int ray) {
        rayIndex(ray);
        state(st.rays.get(ray).time >= 0);
        save();
        return project(st.rays.get(ray));
    }

    private List<Ray> ordered() {
        List<Ray> active = new ArrayList<>(st.rays);
        active.removeIf(ray -> !ray.isActive());
        if (st.order == 1) {
            java.util.Collections.reverse(active);
        } else if (st.order == 2) {
            active.sort(Comparator.comparingLong((Ray ray) -> -Math.abs(ray.time - timeOf(ray))));
        } else if (st.order == 3) {
            List<Ray> drawn = new ArrayList<>();
            while (!active.isEmpty()) {
                st.s = Math.floorMod(1103515245L * st.s + 12345, 1L << 31);
                drawn.add(active.remove((int) ((st.s >> 16) % active.size())));
            }
            return drawn;
        }
        return active;
    }

    int sweep(int sweeps) {
        arg(1 <= sweeps && sweeps <= 20);
        save();
        int made = 0;
        for (int i = 0; i < sweeps; i++) {
            for (Ray ray : ordered()) {
                project(ray);
                made++;
            }
        }
        return made;
    }

    private int replace(int[] fresh) {
        int changed = 0;
        for (int c = 0; c < fresh.length; c++) {
            changed += fresh[c] == st.slow[c] ? 0 : 1;
        }
        st.slow = fresh;
        return changed;
    }

    int smooth(int weight) {
        arg(1 <= weight && weight <= 100);
        save();
        int[] fresh = st.slow.clone();
        for (int c = 0; c < fresh.length; c++) {
            long sum = (long) weight * st.slow[c];
            int number = 0;
            for (int d = 0; d < fresh.length; d++) {
                if (areNeighbours(c, d) && move(c, d) == 1000) {
                    sum += st.slow[d];
                    number++;
                }
            }
            fresh[c] = (int) round(sum, weight + number);
        }
        return replace(fresh);
    }

    int fill() {
        save();
        int[] covers = covers();
        int[] fresh = st.slow.clone();
        for (int c = 0; c < fresh.length; c++) {
            long sum = 0;
            int number = 0;
            for (int d = 0; d < fresh.length; d++) {
                if (covers[c] == 0 && covers[d] > 0 && areNeighbours(c, d)) {
                    sum += st.slow[d];
                    number++;
                }
            }
            if (number > 0) {
                fresh[c] = (int) round(sum, number);
            }
        }
        return replace(fresh);
    }

    int ray(int number, int what) {
        rayIndex(number);
        arg(0 <= what && what <= 4);
        Ray ray = st.rays.get(number);
        int[] values = {ray.source, ray.receiver, ray.used ? 1 : 0, ray.isActive() ? 1 : 0, way(ray).size()};
        return values[what];
    }

    long time(int ray, int what) {
        rayIndex(ray);
        arg(what == 0 || what == 1);
        return what == 0 ? timeOf(st.rays.get(ray)) : st.rays.get(ray).time;
    }

    long residual(int ray) {
        rayIndex(ray);
        state(st.rays.get(ray).time >= 0);
        return st.rays.get(ray).time - timeOf(st.rays.get(ray));
    }

    int wayCell(int ray, int index) {
        rayIndex(ray);
        arg(index >= 0);
        List<Integer> way = way(st.rays.get(ray));
        return index < way.size() ? way.get(index) : -1;
    }

    int length(int ray, int cell) {
        rayIndex(ray);
        index(isCell(cell));
        return lengths(st.rays.get(ray))[cell];
    }

    long least(int from, int to, boolean isTrue) {
        index(isCell(from) && isCell(to));
        return times(from, isTrue ? st.real : st.slow)[to];
    }

    int cell(int cell, int what) {
        index(isCell(cell));
        arg(0 <= what && what <= 3);
        if (what == 0 || what == 1) {
            return what == 0 ? st.slow[cell] : st.real[cell];
        }
        if (what == 2) {
            return covers()[cell];
        }
        return sums()[cell];
    }

    int section(int what) {
        arg(0 <= what && what <= 8);
        int active = 0;
        for (Ray ray : st.rays) {
            active += ray.isActive() ? 1 : 0;
        }
        int uncovered = 0;
        for (int count : covers()) {
            uncovered += count == 0 ? 1 : 0;
        }
        int[] values = {st.w, st.h, st.rays.size(), active, uncovered, st.lower, st.upper, st.relaxation, st.order};
        return values[what];
    }

    long fit(int what) {
        arg(0 <= what && what <= 4);
        long sum = 0;
        long most = 0;
        int worst = -1;
        for (int r = 0; r < st.rays.size(); r++) {
            if (st.rays.get(r).isActive()) {
                long e = Math.abs(residual(r));
                sum += e;
                if (worst < 0 || e > most) {
                    worst = r;
                    most = e;
                }
            }
        }
        long apart = 0;
        long all = 0;
        for (int c = 0; c < st.slow.length; c++) {
            apart += Math.abs(st.slow[c] - st.real[c]);
            all += st.slow[c];
        }
        long[] values = {sum, most, worst, apart, all};
        return values[what];
    }

    long whatIf(int ray, int cell, int slowness) {
        rayIndex(ray);
        index(isCell(cell));
        arg(1 <= slowness && slowness <= 100000);
        int old = st.slow[cell];
        long before = timeOf(st.rays.get(ray));
        st.slow[cell] = slowness;
        long after = timeOf(st.rays.get(ray));
        st.slow[cell] = old;
        return after - before;
    }

    int type(int value) {
        arg(0 <= value && value <= 127);
        state(script.length() < 120);
        script.append((char) value);
        return script.length();
    }

    int clearScript() {
        int old = script.length();
        script.setLength(0);
        return old;
    }

    private static int numbersOf(String word) {
        switch (word) {
            case "ray":
            case "cell":
            case "true":
            case "use":
                return 2;
            case "take":
            case "sweep":
            case "smooth":
                return 1;
            case "fill":
                return 0;
            default:
                return -1;
        }
    }

    /**
     * Byte for byte through the places of a script: 0 in front of a command, 1 in a word, 2 where a
     * number must come next, 3 in a number, 4 where only a semicolon is left. 2 needs a space first.
     */
    private int fault(List<String[]> commands) {
        int place = 0;
        int wordStart = 0;
        boolean isSpaced = false;
        StringBuilder part = new StringBuilder();
        List<String> parts = new ArrayList<>();
        int wanted = 0;
        for (int i = 0; i <= script.length(); i++) {
            boolean isEnd = i == script.length();
            char ch = isEnd ? '\0' : script.charAt(i);
            boolean isLetter = !isEnd && ch >= 'a' && ch <= 'z';
            boolean isDigit = !isEnd && ch >= '0' && ch <= '9';
            boolean isSpace = !isEnd && ch == ' ';
            boolean isSemicolon = !isEnd && ch == ';';
            if (place == 0) {
                if (isEnd) {
                    return -1;
                }
                if (isLetter) {
                    place = 1;
                    wordStart = i;
                    part.setLength(0);
                    part.append(ch);
                    parts.clear();
                } else if (!isSpace) {
                    return i;
                }
                continue;
            }
            if (place == 1) {
                if (isLetter) {
                    part.append(ch);
                    continue;
                }
                wanted = numbersOf(part.toString());
                if (wanted < 0) {
                    return wordStart;
                }
                parts.add(part.toString());
                place = wanted > 0 ? 2 : 4;
                isSpaced = false;
            }
            if (place == 3) {
                if (isDigit && part.length() < 6) {
                    part.append(ch);
                    continue;
                }
                parts.add(part.toString());
                place = parts.size() - 1 < wanted ? 2 : 4;
                isSpaced = false;
            }
            if (place == 2) {
                if (isSpace) {
                    isSpaced = true;
                } else if (isDigit && isSpaced) {
                    part.setLength(0);
                    part.append(ch);
                    place = 3;
                } else {
                    return i;
                }
                continue;
            }
            if (isSemicolon) {
                commands.add(parts.toArray(new String[0]));
                place = 0;
            } else if (!isSpace) {
                return i;
            }
        }
        return script.length();
    }

    private void carryOut(String[] command) {
        int a = command.length > 1 ? Integer.parseInt(command[1]) : 0;
        int b = command.length > 2 ? Integer.parseInt(command[2]) : 0;
        switch (command[0]) {
            case "ray":
                addRay(a, b);
                break;
            case "cell":
                setCell(a, b);
                break;
            case "true":
                setTrue(a, b);
                break;
            case "use":
                setUsed(a, b != 0);
                break;
            case "take":
                observe(a, a);
                break;
            case "sweep":
                sweep(a);
                break;
            case "smooth":
                smooth(a);
                break;
            default:
                fill();
                break;
        }
    }

    int run() {
        List<String[]> commands = new ArrayList<>();
        int fault = fault(commands);
        if (fault >= 0) {
            return -10 - fault;
        }
        save();
        isRunning = true;
        int done = 0;
        try {
            for (String[] command : commands) {
                carryOut(command);
                done++;
            }
        } catch (IllegalArgumentException | IndexOutOfBoundsException | IllegalStateException e) {
            // The script stops here; what was done before stays done.
        }
        isRunning = false;
        return done;
    }

    int undo() {
        state(!stack.isEmpty());
        st = stack.removeLast();
        return stack.size();
    }

    long digest() {
        List<Long> values = new ArrayList<>();
        values.add((long) stack.size());
        values.add((long) script.length());
        for (int what = 0; what <= 8; what++) {
            values.add((long) section(what));
        }
        values.add(st.s);
        int[] covers = covers();
        int[] sums = sums();
        for (int c = 0; c < st.w * st.h; c++) {
            values.add((long) st.slow[c]);
            values.add((long) st.real[c]);
            values.add((long) covers[c]);
            values.add((long) sums[c]);
        }
        for (int r = 0; r < st.rays.size(); r++) {
            for (int what = 0; what <= 4; what++) {
                values.add((long) ray(r, what));
            }
            values.add(time(r, 0));
            values.add(time(r, 1));
            for (int cell : way(st.rays.get(r))) {
                values.add((long) cell);
            }
        }
        for (int what = 0; what <= 4; what++) {
            values.add(fit(what));
        }
        long h = 11888;
        for (long value : values) {
            h = 31 * h + value;
        }
        return h;
    }
}
