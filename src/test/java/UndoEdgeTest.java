import java.math.BigInteger;
import java.util.ArrayList;
import java.util.LinkedHashMap;
import java.util.List;
import java.util.Map;
import java.util.function.Supplier;

/**
 * The boundary cases of promises 29 and 30 and of what the description says of undo and of
 * exceptions: a test for each sentence that names one, with the sentence in front of it.
 */
final class UndoEdgeTest {
    private static final Check check = new Check("UndoEdgeTest");

    public static void main(String[] args) {
        check.runAll(UndoEdgeTest.class);
        check.end();
    }

    private interface Use {
        long on(SlownessImager x);
    }

    /** All of it full: 16 rays, 120 bytes, 4 saved states; cell 0 has been 1000, 1, 2, 3 and 4. */
    private static SlownessImager full() {
        SlownessImager x = new SlownessImager();
        x.begin(3, 4);
        x.slope(true, 700, 120, 60);
        for (int ray = 0; ray < 15; ray++) {
            x.addRay(ray % 4, ray / 4);
        }
        x.observe(50, 5);
        x.addRay(3, 0);
        x.setUsed(2, false);
        x.setOrder(900, 3, 12345);
        Check.type(x, "cell 0 77;" + " ".repeat(110));
        for (int slowness = 1; slowness <= 4; slowness++) {
            x.setCell(0, slowness);
        }
        return x;
    }

    /** The state now, after each undo, and what the script then does. */
    private static List<Long> story(SlownessImager x) {
        List<Long> hashes = new ArrayList<>();
        hashes.add(x.digest());
        for (int left = 3; left >= 0; left--) {
            hashes.add((long) x.undo());
            hashes.add(x.digest());
        }
        hashes.add((long) x.run());
        hashes.add(x.digest());
        return hashes;
    }

    private static void sameStory(String what, SlownessImager x) {
        check.that(what + ": the same story", story(x).equals(story(full())) ? 1 : 0, 1);
    }

    // ---- exceptions

    private static Map<String, Use> refusedByIndex() {
        Map<String, Use> uses = new LinkedHashMap<>();
        uses.put("setCell(12, 5)", x -> x.setCell(12, 5));
        uses.put("setCell(12, 0)", x -> x.setCell(12, 0));
        uses.put("setTrue(-1, 5)", x -> x.setTrue(-1, 5));
        uses.put("setTrue(12, 0)", x -> x.setTrue(12, 0));
        uses.put("addRay(4, 0)", x -> x.addRay(4, 0));
        uses.put("addRay(0, -1)", x -> x.addRay(0, -1));
        uses.put("setUsed(16, false)", x -> x.setUsed(16, false));
        uses.put("setTime(16, 5)", x -> x.setTime(16, 5));
        uses.put("setTime(16, -2)", x -> x.setTime(16, -2));
        uses.put("correct(16)", x -> x.correct(16));
        uses.put("ray(16, 0)", x -> x.ray(16, 0));
        uses.put("ray(16, 5)", x -> x.ray(16, 5));
        uses.put("time(-1, 1)", x -> x.time(-1, 1));
        uses.put("time(16, 2)", x -> x.time(16, 2));
        uses.put("residual(16)", x -> x.residual(16));
        uses.put("wayCell(16, 0)", x -> x.wayCell(16, 0));
        uses.put("wayCell(16, -1)", x -> x.wayCell(16, -1));
        uses.put("length(16, 0)", x -> x.length(16, 0));
        uses.put("length(0, 12)", x -> x.length(0, 12));
        uses.put("least(12, 0, true)", x -> x.least(12, 0, true));
        uses.put("least(0, 12, false)", x -> x.least(0, 12, false));
        uses.put("cell(12, 0)", x -> x.cell(12, 0));
        uses.put("cell(12, 4)", x -> x.cell(12, 4));
        uses.put("whatIf(16, 0, 5)", x -> x.whatIf(16, 0, 5));
        uses.put("whatIf(0, 12, 5)", x -> x.whatIf(0, 12, 5));
        uses.put("whatIf(0, 12, 0)", x -> x.whatIf(0, 12, 0));
        return uses;
    }

    private static Map<String, Use> refusedByArgument() {
        Map<String, Use> uses = new LinkedHashMap<>();
        uses.put("begin(1, 4)", x -> x.begin(1, 4));
        uses.put("begin(4, 9)", x -> x.begin(4, 9));
        uses.put("setCell(0, 0)", x -> x.setCell(0, 0));
        uses.put("setTrue(11, 100001)", x -> x.setTrue(11, 100001));
        uses.put("slope(false, 0, 0, 0)", x -> x.slope(false, 0, 0, 0));
        uses.put("slope(true, 5, 10001, 0)", x -> x.slope(true, 5, 10001, 0));
        uses.put("slope(false, 5, 0, -10001)", x -> x.slope(false, 5, 0, -10001));
        uses.put("setBounds(0, 5)", x -> x.setBounds(0, 5));
        uses.put("setBounds(6, 5)", x -> x.setBounds(6, 5));
        uses.put("setBounds(5, 100001)", x -> x.setBounds(5, 100001));
        uses.put("setTime(0, -2)", x -> x.setTime(0, -2));
        uses.put("setTime(15, 10^11 + 1)", x -> x.setTime(15, Check.MOST_TIME + 1));
        uses.put("observe(1001, 0)", x -> x.observe(1001, 0));
        uses.put("observe(0, 1000000)", x -> x.observe(0, 1000000));
        uses.put("setOrder(2001, 0, 0)", x -> x.setOrder(2001, 0, 0));
        uses.put("setOrder(1, 4, 0)", x -> x.setOrder(1, 4, 0));
        uses.put("setOrder(1, 0, -1)", x -> x.setOrder(1, 0, -1));
        uses.put("sweep(0)", x -> x.sweep(0));
        uses.put("sweep(21)", x -> x.sweep(21));
        uses.put("smooth(0)", x -> x.smooth(0));
        uses.put("smooth(101)", x -> x.smooth(101));
        uses.put("ray(0, 5)", x -> x.ray(0, 5));
        uses.put("time(0, 2)", x -> x.time(0, 2));
        uses.put("wayCell(0, -1)", x -> x.wayCell(0, -1));
        uses.put("cell(0, 4)", x -> x.cell(0, 4));
        uses.put("section(9)", x -> x.section(9));
        uses.put("fit(5)", x -> x.fit(5));
        uses.put("whatIf(0, 0, 0)", x -> x.whatIf(0, 0, 0));
        uses.put("type(128) to 120 bytes", x -> x.type(128));
        return uses;
    }

    private static Map<String, Use> refusedByState() {
        Map<String, Use> uses = new LinkedHashMap<>();
        uses.put("addRay(0, 0) to 16 rays", x -> x.addRay(0, 0));
        uses.put("correct(15) without a time", x -> x.correct(15));
        uses.put("residual(15) without a time", x -> x.residual(15));
        uses.put("type(59) to 120 bytes", x -> x.type(59));
        return uses;
    }

    /** "A call that throws an exception changes nothing.": nor the saved states, nor the script. */
    private static void refusedCallsChangeNothing() {
        refusedByIndex().forEach((what, use) -> {
            SlownessImager x = full();
            check.badIndex(x, what, () -> use.on(x));
            sameStory(what, x);
        });
        refusedByArgument().forEach((what, use) -> {
            SlownessImager x = full();
            check.badArgument(x, what, () -> use.on(x));
            sameStory(what, x);
        });
        refusedByState().forEach((what, use) -> {
            SlownessImager x = full();
            check.badState(x, what, () -> use.on(x));
            sameStory(what, x);
        });
    }

    /** The same with no saved state: a refused call saves none, so there is nothing to undo. */
    private static void refusedCallsSaveNothing() {
        Use[] uses = {x -> x.begin(9, 4), x -> x.setCell(16, 5), x -> x.setTrue(0, 0), x -> x.slope(true, 0, 0, 0),
            x -> x.setBounds(2, 1), x -> x.addRay(0, 4), x -> x.setUsed(0, true), x -> x.setTime(0, 0),
            x -> x.observe(-1, 0), x -> x.setOrder(1, 4, 0), x -> x.correct(0), x -> x.sweep(0), x -> x.smooth(0)};
        for (Use use : uses) {
            SlownessImager x = new SlownessImager();
            try {
                use.on(x);
                check.that("refused", 0, 1);
            } catch (RuntimeException e) {
                check.badState(x, "undo() after " + e.getClass().getSimpleName(), () -> x.undo());
            }
        }
    }

    // ---- undo

    /** "Every method that is marked "undoable" saves": no other one does, and it changes nothing. */
    private static void questionsSaveNothing() {
        Map<String, Use> uses = new LinkedHashMap<>();
        uses.put("ray(15, 4)", x -> x.ray(15, 4));
        uses.put("time(15, 0)", x -> x.time(15, 0));
        uses.put("residual(0)", x -> x.residual(0));
        uses.put("wayCell(15, 64)", x -> x.wayCell(15, 64));
        uses.put("length(15, 11)", x -> x.length(15, 11));
        uses.put("least(0, 11, true)", x -> x.least(0, 11, true));
        uses.put("cell(11, 3)", x -> x.cell(11, 3));
        uses.put("section(4)", x -> x.section(4));
        uses.put("fit(2)", x -> x.fit(2));
        uses.put("whatIf(15, 11, 1)", x -> x.whatIf(15, 11, 1));
        uses.put("digest()", x -> x.digest());
        uses.forEach((what, use) -> {
            SlownessImager x = full();
            use.on(x);
            sameStory(what, x);
            SlownessImager y = new SlownessImager();
            Check.type(y, "ray 0 0;");
            y.clearScript();
            check.badState(y, "type and clearScript save nothing: undo()", () -> y.undo());
        });
    }

    private static Map<String, Use> changes() {
        Map<String, Use> uses = new LinkedHashMap<>();
        uses.put("begin(8, 8)", x -> x.begin(8, 8));
        uses.put("begin(2, 2)", x -> x.begin(2, 2));
        uses.put("setCell(11, 9)", x -> x.setCell(11, 9));
        uses.put("setTrue(11, 9)", x -> x.setTrue(11, 9));
        uses.put("slope(false, 5, 6, 7)", x -> x.slope(false, 5, 6, 7));
        uses.put("slope(true, 5, 6, 7)", x -> x.slope(true, 5, 6, 7));
        uses.put("setBounds(7, 8)", x -> x.setBounds(7, 8));
        uses.put("setUsed(15, false)", x -> x.setUsed(15, false));
        uses.put("setTime(15, 9)", x -> x.setTime(15, 9));
        uses.put("setTime(14, -1)", x -> x.setTime(14, -1));
        uses.put("observe(9, 9)", x -> x.observe(9, 9));
        uses.put("setOrder(5, 1, 5)", x -> x.setOrder(5, 1, 5));
        uses.put("setOrder(900, 3, 5)", x -> x.setOrder(900, 3, 5));
        uses.put("correct(14)", x -> x.correct(14));
        uses.put("sweep(3)", x -> x.sweep(3));
        uses.put("smooth(1)", x -> x.smooth(1));
        uses.put("fill()", x -> x.fill());
        uses.put("run()", x -> x.run());
        return uses;
    }

    /** "The stack keeps the latest 4 saved states and drops older ones.": a fifth one drops the first. */
    private static void fifthStateDropsTheFirst() {
        SlownessImager plain = full();
        long[] states = new long[5];
        for (int i = 0; i < 4; i++) {
            states[i] = Check.stateHash(plain, 4 - i);
            check.that("undo()", plain.undo(), 3 - i);
        }
        changes().forEach((what, use) -> {
            SlownessImager x = full();
            use.on(x);
            for (int i = 0; i < 4; i++) {
                check.that(what + ": undo()", x.undo(), 3 - i);
                check.that(what + ": undone, state " + i, Check.stateHash(x, 3 - i), states[i]);
            }
            check.that(what + ": the state of cell 0", x.cell(0, 0), 1);
            check.badState(x, what + ": a fifth undo()", () -> x.undo());
        });
    }

    /** "Every method that is marked "undoable" saves the whole state": what it changed comes back. */
    private static void undoBringsEverythingBack() {
        changes().forEach((what, use) -> {
            SlownessImager x = full();
            x.undo();
            long before = x.digest();
            use.on(x);
            check.that(what + ": undo()", x.undo(), 3);
            check.that(what + ": undone, the digest", x.digest(), before);
        });
        SlownessImager y = full();
        y.undo();
        y.begin(2, 2);
        y.undo();
        y.begin(3, 4);
        y.undo();
        long before = Check.stateHash(y, 3);
        check.that("sixteen rays are back", y.section(2), 16);
        y.begin(8, 8);
        y.slope(false, 3, 3, 3);
        y.undo();
        y.undo();
        check.that("back from 64 cells", Check.stateHash(y, 2), before);
    }

    /** ".. also if it changes nothing." */
    private static void callsThatChangeNothingSaveAState() {
        Map<String, Use> uses = new LinkedHashMap<>();
        uses.put("begin(4, 4)", x -> x.begin(4, 4));
        uses.put("setCell(0, 1000)", x -> x.setCell(0, 1000));
        uses.put("setTrue(0, 1000)", x -> x.setTrue(0, 1000));
        uses.put("slope(false, 1000, 0, 0)", x -> x.slope(false, 1000, 0, 0));
        uses.put("slope(true, 1000, 0, 0)", x -> x.slope(true, 1000, 0, 0));
        uses.put("setBounds(1, 100000)", x -> x.setBounds(1, 100000));
        uses.put("observe(0, 0)", x -> x.observe(0, 0));
        uses.put("setOrder(1000, 0, 0)", x -> x.setOrder(1000, 0, 0));
        uses.put("sweep(1)", x -> x.sweep(1));
        uses.put("smooth(1)", x -> x.smooth(1));
        uses.put("fill()", x -> x.fill());
        uses.put("run()", x -> x.run());
        uses.forEach((what, use) -> {
            SlownessImager x = new SlownessImager();
            long before = x.digest();
            use.on(x);
            check.that(what + ": nothing changed", Check.stateHash(x, 1), before);
            check.that(what + ": undo()", x.undo(), 0);
            check.that(what + ": undone", x.digest(), before);
        });
    }

    /** The same for the calls that need a ray. */
    private static void callsToARayThatChangeNothingSaveAState() {
        Map<String, Use> uses = new LinkedHashMap<>();
        uses.put("setUsed(0, true)", x -> x.setUsed(0, true));
        uses.put("setTime(0, 6000000)", x -> x.setTime(0, 6000000));
        uses.put("setTime(1, NONE)", x -> x.setTime(1, -1));
        uses.put("correct(0)", x -> x.correct(0));
        uses.put("sweep(20)", x -> x.sweep(20));
        uses.forEach((what, use) -> {
            SlownessImager x = new SlownessImager();
            x.addRay(0, 0);
            x.addRay(1, 1);
            x.setTime(0, 6000000);
            long before = Check.stateHash(x, 3);
            use.on(x);
            check.that(what + ": nothing changed", Check.stateHash(x, 4), before);
            check.that(what + ": undo()", x.undo(), 3);
            check.that(what + ": undone", Check.stateHash(x, 3), before);
        });
    }

    /** "The saved state is the one from before the call.", all of it in the greatest section. */
    private static void undoOfTheGreatestSection() {
        SlownessImager x = new SlownessImager();
        Check.type(x, "ray 7 7;".repeat(15));
        x.begin(8, 8);
        x.slope(false, 500, 31, 17);
        x.slope(true, 600, 13, 71);
        for (int ray = 0; ray < 16; ray++) {
            x.addRay(ray % 8, 7 - ray / 2);
        }
        x.observe(1000, 7);
        x.setOrder(2000, 2, 999999);
        x.setBounds(2, 99999);
        long before = Check.stateHash(x, 4);
        x.begin(8, 8);
        x.run();
        x.addRay(0, 0);
        x.observe(1000, 1);
        check.that("another one", Check.stateHash(x, 4) == before ? 1 : 0, 0);
        check.that("undo()s", x.undo() + x.undo() + x.undo() + x.undo(), 6);
        check.that("undone", Check.stateHash(x, 0), before);
        check.that("the last slowness", x.cell(63, 0), 500 + 7 * 31 + 7 * 17);
        check.that("the last true one", x.cell(63, 1), 600 + 7 * 13 + 7 * 71);
        check.that("the last source", x.ray(15, 0), 7);
        check.that("the last receiver", x.ray(15, 1), 0);
    }

    /** Sixteen times, uses and ends of rays come back, those of the last ray too. */
    private static void undoOfSixteenRays() {
        SlownessImager x = new SlownessImager();
        for (int ray = 0; ray < 16; ray++) {
            x.addRay(3, 2);
            x.setTime(ray, 100 + ray);
            x.setUsed(ray, false);
        }
        Check.type(x, "ray 1 0;".repeat(15));
        x.begin(4, 4);
        x.run();
        x.addRay(1, 0);
        x.observe(0, 0);
        check.that("undo()s", x.undo() + x.undo() + x.undo() + x.undo(), 6);
        check.that("rays", x.section(2), 16);
        for (int ray = 0; ray < 16; ray++) {
            check.that("source", x.ray(ray, 0), 3);
            check.that("receiver", x.ray(ray, 1), 2);
            check.that("use", x.ray(ray, 2), 0);
            check.that("time", x.time(ray, 1), 100 + ray);
            check.that("way", x.wayCell(ray, 0), 12);
        }
    }

    /** "the whole state but the script": what was typed or cleared since stays so. */
    private static void undoLeavesTheScript() {
        SlownessImager x = new SlownessImager();
        Check.type(x, "cell 0 5;");
        x.run();
        x.type(' ');
        check.that("undo()", x.undo(), 0);
        check.that("a byte more", x.clearScript(), 10);
        Check.type(x, "z".repeat(120));
        x.fill();
        x.clearScript();
        x.undo();
        check.that("none", x.clearScript(), 0);
        x.fill();
        Check.type(x, "cell 1 6;");
        x.undo();
        check.that("run() of the new one", x.run(), 1);
        check.that("what it did", x.cell(1, 0), 6);
    }

    /** "the number s" belongs to the state: a sweep that is undone draws the same lots again. */
    private static void undoBringsTheNumberBack() {
        SlownessImager x = full();
        long before = Check.stateHash(x, 4);
        x.sweep(1);
        long swept = x.digest();
        x.undo();
        check.that("undone", Check.stateHash(x, 3), before);
        x.sweep(1);
        check.that("swept again", x.digest(), swept);
        x.undo();
        x.setOrder(900, 3, 12346);
        x.undo();
        x.sweep(1);
        check.that("and again", x.digest(), swept);
    }

    // ---- promise 29: undo

    /** "Throws IllegalStateException if the stack is empty": at first, and after the last state. */
    private static void undoOfNothing() {
        SlownessImager x = new SlownessImager();
        check.badState(x, "at first", () -> x.undo());
        x.setCell(0, 5);
        check.that("undo()", x.undo(), 0);
        check.badState(x, "after the last one", () -> x.undo());
        check.badState(x, "once more", () -> x.undo());
        x.setCell(0, 6);
        check.that("undo() then", x.undo(), 0);
        check.that("undone", x.cell(0, 0), 1000);
    }

    /** "Returns the number of states that are left on the stack.": 3 at most, 0 at last. */
    private static void undoAnswersTheStatesLeft() {
        for (int saved = 1; saved <= 9; saved++) {
            SlownessImager x = new SlownessImager();
            for (int i = 1; i <= saved; i++) {
                x.setCell(0, i);
            }
            int kept = Math.min(saved, 4);
            for (int i = 1; i <= kept; i++) {
                check.that("undo() " + i + " of " + saved, x.undo(), kept - i);
                check.that("undone", x.cell(0, 0), saved - i == 0 ? 1000 : saved - i);
            }
            check.badState(x, "one more of " + saved, () -> x.undo());
        }
    }

    /** "Restores the latest saved state and removes it": calls and undos by turns, however they fall. */
    private static void undoKeepsCountHoweverCallsFall() {
        SlownessImager x = new SlownessImager();
        List<Integer> saved = new ArrayList<>();
        int present = 1000;
        long draw = 1;
        for (int i = 1; i <= 240; i++) {
            draw = (1103515245L * draw + 12345) % 2147483648L;
            boolean isUndo = draw / 65536 % 5 < 2 && !saved.isEmpty();
            if (isUndo) {
                present = saved.remove(saved.size() - 1);
                check.that("undo() in call " + i, x.undo(), saved.size());
            } else {
                check.that("setCell in call " + i, x.setCell(0, i), present);
                saved.add(present);
                present = i;
                if (saved.size() > 4) {
                    saved.remove(0);
                }
            }
            check.that("the slowness in call " + i, x.cell(0, 0), present);
        }
    }

    /** An undo saves no state: it cannot be undone, and what it took is gone. */
    private static void undoIsNotUndone() {
        SlownessImager x = new SlownessImager();
        x.setCell(0, 1);
        x.setCell(0, 2);
        check.that("undo()", x.undo(), 1);
        check.that("undo()", x.undo(), 0);
        check.that("undone", x.cell(0, 0), 1000);
        x.setCell(0, 3);
        check.that("undo()", x.undo(), 0);
        check.that("undone", x.cell(0, 0), 1000);
    }

    // ---- promise 30: digest

    /**
     * "h becomes 31 * h + v (long arithmetic, overflow wraps)", from the answers of the other
     * methods. Each cell and each ray asks an object of its own, for none lasts longer than 512 calls.
     */
    private static long hash(Supplier<SlownessImager> made, int saved, int script, long number) {
        List<Long> values = new ArrayList<>();
        values.add((long) saved);
        values.add((long) script);
        SlownessImager x = made.get();
        for (int what = 0; what <= 8; what++) {
            values.add((long) x.section(what));
        }
        values.add(number);
        for (int cell = 0; cell < x.section(0) * x.section(1); cell++) {
            addCell(values, made.get(), cell);
        }
        for (int ray = 0; ray < x.section(2); ray++) {
            addRay(values, made.get(), ray);
        }
        for (int what = 0; what <= 4; what++) {
            values.add(x.fit(what));
        }
        BigInteger h = BigInteger.valueOf(11888);
        for (long value : values) {
            h = h.multiply(BigInteger.valueOf(31)).add(BigInteger.valueOf(value));
        }
        return h.longValue();
    }

    private static void addCell(List<Long> values, SlownessImager x, int cell) {
        for (int what = 0; what <= 3; what++) {
            values.add((long) x.cell(cell, what));
        }
    }

    private static void addRay(List<Long> values, SlownessImager x, int ray) {
        for (int what = 0; what <= 4; what++) {
            values.add((long) x.ray(ray, what));
        }
        values.add(x.time(ray, 0));
        values.add(x.time(ray, 1));
        for (long cell : Check.way(x, ray)) {
            values.add(cell);
        }
    }

    /** "It starts with h = 11888.": of a new object, without rays, states and bytes. */
    private static void digestOfANewObject() {
        SlownessImager x = new SlownessImager();
        check.that("digest()", x.digest(), hash(SlownessImager::new, 0, 0, 0));
        check.that("digest(), again", x.digest(), hash(SlownessImager::new, 0, 0, 0));
    }

    /** The same of the least section, with a ray that is not active: NONE is -1. */
    private static void digestOfTheLeastSection() {
        SlownessImager x = new SlownessImager();
        x.begin(2, 2);
        x.addRay(1, 0);
        x.type(0);
        check.that("digest()", x.digest(), hash(() -> x, 2, 1, 0));
        x.setTime(0, 0);
        check.that("digest() with a time", x.digest(), hash(() -> x, 3, 1, 0));
        x.setUsed(0, false);
        check.that("digest() of a ray that is not used", x.digest(), hash(() -> x, 4, 1, 0));
        x.setOrder(1, 3, 999999);
        check.that("digest() with s = 999999", x.digest(), hash(() -> x, 4, 1, 999999));
    }

    /** The same of the greatest one: 64 cells, 16 rays, 120 bytes, 4 states, and a great s. */
    private static void digestOfTheGreatestSection() {
        SlownessImager x = greatest();
        check.that("digest()", x.digest(), hash(() -> greatest(), 4, 120, 999999));
        x.sweep(1);
        long s = 999999;
        for (int ray = 0; ray < 16; ray++) {
            s = (1103515245L * s + 12345) % 2147483648L;
        }
        check.that("digest() after a sweep", x.digest(), hash(() -> greatestSwept(), 4, 120, s));
        x.clearScript();
        check.that("digest() without a script", x.digest(), hash(() -> greatestSwept(), 4, 0, s));
    }

    private static SlownessImager greatest() {
        SlownessImager x = new SlownessImager();
        Check.type(x, "ray 0 7;".repeat(15));
        x.begin(8, 8);
        x.slope(false, 99990, 1, 1);
        x.run();
        x.addRay(7, 0);
        x.observe(1000, 999999);
        x.setOrder(2000, 3, 999999);
        return x;
    }

    private static SlownessImager greatestSwept() {
        SlownessImager x = greatest();
        x.sweep(1);
        return x;
    }

    /** "the number of states on the undo stack": it goes up to 4 and stays there. */
    private static void digestCountsUpToFourStates() {
        SlownessImager x = new SlownessImager();
        long[] digests = new long[7];
        for (int i = 0; i <= 6; i++) {
            digests[i] = x.digest();
            check.that(i + " calls", digests[i], hash(SlownessImager::new, Math.min(i, 4), 0, 0));
            x.fill();
        }
        check.that("it stays", digests[6], digests[4]);
        check.that("it went up", digests[4] == digests[3] ? 1 : 0, 0);
    }

    /** "the length of the script": 0 to 120; its bytes do not matter. */
    private static void digestCountsBytes() {
        SlownessImager x = new SlownessImager();
        for (int length = 0; length <= 120; length++) {
            check.that(length + " bytes", x.digest(), hash(SlownessImager::new, 0, length, 0));
            if (length < 120) {
                x.type(length);
            }
        }
        x.clearScript();
        check.that("none again", x.digest(), new SlownessImager().digest());
    }

    /** "An object is used for at most 512 calls after it has been made": the last one is answered too. */
    private static void lastOf512Calls() {
        SlownessImager x = new SlownessImager();
        x.begin(2, 2);
        x.addRay(0, 0);
        for (int call = 3; call <= 511; call++) {
            check.that("call " + call, x.setCell(call % 2, call), call < 5 ? 1000 : call - 2);
        }
        check.that("call 512", x.time(0, 0), 1000 * (510 + 511));
    }
}
