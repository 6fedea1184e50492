/** Promises 1 to 10: the section, its cells, its rays and their observed times. */
final class SectionTest {
    private static final Check check = new Check("SectionTest");

    public static void main(String[] args) {
        newObject();
        begin();
        setCell();
        setTrue();
        slope();
        setBounds();
        addRay();
        setUsed();
        setTime();
        observe();
        observeWithNoise();
        check.end();
    }

    private static void newObject() {
        SlownessImager x = new SlownessImager();
        check.that("NONE", SlownessImager.NONE, -1);
        long[] due = {4, 4, 0, 0, 16, 1, 100000, 1000, 0};
        for (int what = 0; what < due.length; what++) {
            check.that("new: section(" + what + ")", x.section(what), due[what]);
        }
        for (int cell = 0; cell < 16; cell++) {
            check.that("new: slowness of " + cell, x.cell(cell, 0), 1000);
            check.that("new: true slowness of " + cell, x.cell(cell, 1), 1000);
        }
        check.that("new: the script is empty", x.clearScript(), 0);
        check.badState(x, "new: undo()", () -> x.undo());
        check.badIndex(x, "new: ray(0, 0)", () -> x.ray(0, 0));
    }

    private static void begin() {
        SlownessImager x = new SlownessImager();
        x.setOrder(700, 3, 99);
        x.setBounds(5, 5000);
        x.slope(true, 50, 1, 1);
        x.slope(false, 60, 1, 1);
        x.addRay(0, 3);
        check.undoable(x, "begin(2, 8)", 16, () -> x.begin(2, 8));
        check.undoable(x, "begin(8, 2)", 16, () -> x.begin(8, 2));
        SlownessImager y = new SlownessImager();
        y.setOrder(700, 3, 99);
        y.setBounds(5, 5000);
        y.slope(true, 50, 1, 1);
        y.slope(false, 60, 1, 1);
        y.addRay(0, 3);
        check.that("begin(3, 5)", y.begin(3, 5), 15);
        long[] due = {3, 5, 0, 0, 15, 5, 5000, 700, 3};
        for (int what = 0; what < due.length; what++) {
            check.that("begun: section(" + what + ")", y.section(what), due[what]);
        }
        for (int cell = 0; cell < 15; cell++) {
            check.that("begun: slowness of " + cell, y.cell(cell, 0), 1000);
            check.that("begun: true slowness of " + cell, y.cell(cell, 1), 1000);
        }
        check.badIndex(y, "begun: setCell(15, 1)", () -> y.setCell(15, 1));
        check.badIndex(y, "begun: ray(0, 0)", () -> y.ray(0, 0));
        check.that("begin(2, 2)", y.begin(2, 2), 4);
        check.that("begin(8, 8)", y.begin(8, 8), 64);
        check.that("begun: a ray has no observed time", y.addRay(0, 7), 0);
        check.that("begun: observed", y.time(0, 1), -1);
        check.badArgument(y, "begin(1, 4)", () -> y.begin(1, 4));
        check.badArgument(y, "begin(9, 4)", () -> y.begin(9, 4));
        check.badArgument(y, "begin(4, 1)", () -> y.begin(4, 1));
        check.badArgument(y, "begin(4, 9)", () -> y.begin(4, 9));
        check.badArgument(y, "begin(-4, -4)", () -> y.begin(-4, -4));
        beginKeepsTheNumberS();
    }

    private static void beginKeepsTheNumberS() {
        SlownessImager x = new SlownessImager();
        x.setOrder(1000, 3, 99);
        x.begin(2, 2);
        long[] due = {2, 0, 2, 2, 0, 0, 4, 1, 100000, 1000, 3, 99,
            1000, 1000, 0, 0, 1000, 1000, 0, 0, 1000, 1000, 0, 0, 1000, 1000, 0, 0, 0, 0, -1, 0, 4000};
        check.that("begun: digest with s = 99", x.digest(), ScriptTest.hash(due));
    }

    private static void setCell() {
        SlownessImager x = new SlownessImager();
        x.addRay(0, 0);
        check.that("setCell: way before", x.time(0, 0), 6000000);
        check.undoable(x, "setCell(1, 1)", 1000, () -> x.setCell(1, 1));
        check.that("setCell: way after", x.time(0, 0), 1000 * (1001 + 1001 + 2000));
        check.that("setCell(1, 100000)", x.setCell(1, 100000), 1);
        check.that("setCell(15, 7)", x.setCell(15, 7), 1000);
        check.that("setCell(0, 8)", x.setCell(0, 8), 1000);
        check.that("setCell: cell(1, 0)", x.cell(1, 0), 100000);
        check.that("setCell: cell(15, 0)", x.cell(15, 0), 7);
        check.that("setCell: not the true one", x.cell(15, 1), 1000);
        check.badIndex(x, "setCell(-1, 5)", () -> x.setCell(-1, 5));
        check.badIndex(x, "setCell(16, 5)", () -> x.setCell(16, 5));
        check.badIndex(x, "setCell(16, 0)", () -> x.setCell(16, 0));
        check.badIndex(x, "setCell(min, 0)", () -> x.setCell(Integer.MIN_VALUE, 0));
        check.badArgument(x, "setCell(0, 0)", () -> x.setCell(0, 0));
        check.badArgument(x, "setCell(0, 100001)", () -> x.setCell(0, 100001));
        x.setBounds(500, 600);
        check.that("setCell knows no bounds", x.setCell(0, 700), 8);
    }

    private static void setTrue() {
        SlownessImager x = new SlownessImager();
        check.undoable(x, "setTrue(1, 1)", 1000, () -> x.setTrue(1, 1));
        check.that("setTrue(1, 100000)", x.setTrue(1, 100000), 1);
        check.that("setTrue(15, 7)", x.setTrue(15, 7), 1000);
        check.that("setTrue: cell(1, 1)", x.cell(1, 1), 100000);
        check.that("setTrue: cell(15, 1)", x.cell(15, 1), 7);
        check.that("setTrue: not the other one", x.cell(15, 0), 1000);
        check.badIndex(x, "setTrue(-1, 5)", () -> x.setTrue(-1, 5));
        check.badIndex(x, "setTrue(16, 0)", () -> x.setTrue(16, 0));
        check.badArgument(x, "setTrue(0, 0)", () -> x.setTrue(0, 0));
        check.badArgument(x, "setTrue(0, 100001)", () -> x.setTrue(0, 100001));
    }

    private static void slope() {
        SlownessImager x = new SlownessImager();
        x.begin(3, 2);
        x.addRay(0, 0);
        check.undoable(x, "slope(false, 1000, 10, 100)", 5, () -> x.slope(false, 1000, 10, 100));
        check.same("slope: slownesses", Check.slownesses(x), Check.list(1000, 1010, 1020, 1100, 1110, 1120));
        check.that("slope: the way knows", x.time(0, 0), 1000 * (2010 + 2030));
        check.that("slope: true ones stay", x.cell(5, 1), 1000);
        check.undoable(x, "slope(true, 990, -10, 5)", 6, () -> x.slope(true, 990, -10, 5));
        check.same("slope: true slownesses", Check.cells(x, 1), Check.list(990, 980, 970, 995, 985, 975));
        check.that("slope: the same again", x.slope(true, 990, -10, 5), 0);
        check.that("slope: at least 1", x.slope(true, 1, -10000, -10000), 6);
        check.same("slope: least values", Check.cells(x, 1), Check.list(1, 1, 1, 1, 1, 1));
        check.that("slope: at most 100000", x.slope(true, 100000, 10000, 10000), 6);
        check.that("slope: greatest value", x.cell(5, 1), 100000);
        check.that("slope: up to the limits", x.slope(true, 99998, 1, 1), 3);
        check.same("slope: near the limit", Check.cells(x, 1),
                Check.list(99998, 99999, 100000, 99999, 100000, 100000));
        check.badArgument(x, "slope(true, 0, 0, 0)", () -> x.slope(true, 0, 0, 0));
        check.badArgument(x, "slope(true, 100001, 0, 0)", () -> x.slope(true, 100001, 0, 0));
        check.badArgument(x, "slope(false, 1, 10001, 0)", () -> x.slope(false, 1, 10001, 0));
        check.badArgument(x, "slope(false, 1, -10001, 0)", () -> x.slope(false, 1, -10001, 0));
        check.badArgument(x, "slope(false, 1, 0, 10001)", () -> x.slope(false, 1, 0, 10001));
        check.badArgument(x, "slope(false, 1, 0, -10001)", () -> x.slope(false, 1, 0, -10001));
    }

    private static void setBounds() {
        SlownessImager x = new SlownessImager();
        x.setCell(3, 999);
        x.setCell(4, 1001);
        check.undoable(x, "setBounds(1000, 1000)", 2, () -> x.setBounds(1000, 1000));
        check.that("setBounds(999, 1001)", x.setBounds(999, 1001), 0);
        check.that("setBounds(1001, 1001)", x.setBounds(1001, 1001), 15);
        check.that("setBounds: slownesses stay", x.cell(3, 0), 999);
        check.that("setBounds(1, 1)", x.setBounds(1, 1), 16);
        check.that("setBounds(100000, 100000)", x.setBounds(100000, 100000), 16);
        check.that("setBounds: lower", x.section(5), 100000);
        check.that("setBounds(1, 100000)", x.setBounds(1, 100000), 0);
        check.that("setBounds: lower", x.section(5), 1);
        check.that("setBounds: upper", x.section(6), 100000);
        check.badArgument(x, "setBounds(0, 5)", () -> x.setBounds(0, 5));
        check.badArgument(x, "setBounds(6, 5)", () -> x.setBounds(6, 5));
        check.badArgument(x, "setBounds(1, 100001)", () -> x.setBounds(1, 100001));
        check.badArgument(x, "setBounds(0, 0)", () -> x.setBounds(0, 0));
    }

    private static void addRay() {
        SlownessImager x = new SlownessImager();
        x.begin(2, 3);
        check.undoable(x, "addRay(0, 2)", 0, () -> x.addRay(0, 2));
        check.that("addRay(2, 0)", x.addRay(2, 0), 1);
        check.that("addRay: source", x.ray(1, 0), 2);
        check.that("addRay: receiver", x.ray(1, 1), 0);
        check.that("addRay: used", x.ray(1, 2), 1);
        check.that("addRay: not active", x.ray(1, 3), 0);
        check.that("addRay: no observed time", x.time(1, 1), -1);
        check.badIndex(x, "addRay(3, 0)", () -> x.addRay(3, 0));
        check.badIndex(x, "addRay(0, 3)", () -> x.addRay(0, 3));
        check.badIndex(x, "addRay(-1, 0)", () -> x.addRay(-1, 0));
        check.badIndex(x, "addRay(0, -1)", () -> x.addRay(0, -1));
        for (int ray = 2; ray < 16; ray++) {
            check.that("addRay: number", x.addRay(1, 1), ray);
        }
        check.that("addRay: rays", x.section(2), 16);
        check.badState(x, "addRay(1, 1) to 16 rays", () -> x.addRay(1, 1));
        check.badIndex(x, "addRay(3, 1) to 16 rays", () -> x.addRay(3, 1));
        x.setTime(15, 5);
        x.undo();
        x.undo();
        check.that("addRay: the last one again", x.addRay(1, 0), 15);
        check.that("addRay: as new", x.time(15, 1), -1);
    }

    private static void setUsed() {
        SlownessImager x = new SlownessImager();
        x.addRay(0, 0);
        x.addRay(1, 1);
        check.that("setUsed: no time, not active", x.setUsed(0, true), 0);
        x.setTime(1, 0);
        check.undoable(x, "setUsed(1, false)", 0, () -> x.setUsed(1, false));
        check.that("setUsed: used", x.ray(1, 2), 0);
        check.that("setUsed: active", x.ray(1, 3), 0);
        check.that("setUsed(1, true)", x.setUsed(1, true), 1);
        check.that("setUsed: active again", x.ray(1, 3), 1);
        x.setTime(0, 5);
        check.that("setUsed(1, true), again", x.setUsed(1, true), 2);
        check.badIndex(x, "setUsed(2, true)", () -> x.setUsed(2, true));
        check.badIndex(x, "setUsed(-1, true)", () -> x.setUsed(-1, true));
    }

    private static void setTime() {
        SlownessImager x = new SlownessImager();
        x.addRay(0, 0);
        check.undoable(x, "setTime(0, 0)", -1, () -> x.setTime(0, 0));
        check.that("setTime: 0 is a time", x.ray(0, 3), 1);
        check.that("setTime(0, 10^11)", x.setTime(0, 100000000000L), 0);
        check.that("setTime(0, NONE)", x.setTime(0, -1), 100000000000L);
        check.that("setTime: none", x.ray(0, 3), 0);
        check.that("setTime(0, NONE), again", x.setTime(0, -1), -1);
        check.badArgument(x, "setTime(0, -2)", () -> x.setTime(0, -2));
        check.badArgument(x, "setTime(0, 10^11 + 1)", () -> x.setTime(0, 100000000001L));
        check.badArgument(x, "setTime(0, -2^32)", () -> x.setTime(0, -4294967296L));
        check.badIndex(x, "setTime(1, 5)", () -> x.setTime(1, 5));
        check.badIndex(x, "setTime(-1, -2)", () -> x.setTime(-1, -2));
    }

    private static void observe() {
        SlownessImager x = new SlownessImager();
        check.that("observe: no rays", x.observe(1000, 999999), 0);
        check.badArgument(x, "observe(-1, 0)", () -> x.observe(-1, 0));
        check.badArgument(x, "observe(1001, 0)", () -> x.observe(1001, 0));
        check.badArgument(x, "observe(0, -1)", () -> x.observe(0, -1));
        check.badArgument(x, "observe(0, 1000000)", () -> x.observe(0, 1000000));
        SlownessImager y = new SlownessImager();
        y.setTrue(1, 400);
        y.addRay(0, 0);
        y.addRay(3, 3);
        check.undoable(y, "observe(0, 7)", 2, () -> y.observe(0, 7));
        check.that("observe: by the true slownesses", y.time(0, 1), 1000 * (1400 + 1400 + 2000));
        check.that("observe: the way stays", y.time(0, 0), 6000000);
        y.setUsed(1, false);
        y.setTime(1, 3);
        y.observe(0, 0);
        check.that("observe: a ray that is not used", y.time(1, 1), 6000000);
        check.that("observe: it stays unused", y.ray(1, 2), 0);
    }

    private static void observeWithNoise() {
        for (int width = 1; width <= 1000; width += 333) {
            for (int seed = 0; seed <= 999999; seed += 76923) {
                SlownessImager x = new SlownessImager();
                x.begin(2, 2);
                x.slope(true, 30, 0, 0);
                x.addRay(0, 0);
                x.addRay(0, 1);
                x.setUsed(0, false);
                x.addRay(1, 1);
                x.observe(width, seed);
                long t = seed;
                long[] ways = {60000, 84840, 60000};
                for (int ray = 0; ray < 3; ray++) {
                    t = (1103515245L * t + 12345) % 2147483648L;
                    long noise = 1000 * (t / 65536 % (2 * width + 1) - width);
                    long due = ways[ray] + noise < 0 ? 0 : ways[ray] + noise;
                    check.that("observe(" + width + ", " + seed + ") of ray " + ray, x.time(ray, 1), due);
                }
            }
        }
    }
}
