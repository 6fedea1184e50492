/** Promises 26 to 30: scripts, undo and the digest. */
final class ScriptTest {
    private static final Check check = new Check("ScriptTest");

    public static void main(String[] args) {
        type();
        clearScript();
        faults();
        lateFault();
        runEmpty();
        runCommands();
        runSingleCommands();
        runStops();
        runIsOneState();
        undo();
        undoOverBegin();
        undoForgetsTheOldest();
        digest();
        check.end();
    }

    static long hash(long... values) {
        long h = 11888;
        for (long value : values) {
            h = 31 * h + value;
        }
        return h;
    }

    private static void type() {
        SlownessImager x = new SlownessImager();
        check.badArgument(x, "type(-1)", () -> x.type(-1));
        check.badArgument(x, "type(128)", () -> x.type(128));
        check.that("type(0)", x.type(0), 1);
        check.that("type(127)", x.type(127), 2);
        for (int length = 3; length <= 120; length++) {
            check.that("type(32)", x.type(32), length);
        }
        check.badState(x, "type(32) to 120 bytes", () -> x.type(32));
        check.badArgument(x, "type(128) to 120 bytes", () -> x.type(128));
        check.badState(x, "type saves no state: undo()", () -> x.undo());
    }

    private static void clearScript() {
        SlownessImager x = new SlownessImager();
        check.that("clearScript() of none", x.clearScript(), 0);
        Check.type(x, "fill;");
        check.that("clearScript()", x.clearScript(), 5);
        check.that("clearScript(), again", x.clearScript(), 0);
        check.that("run() of the cleared one", x.run(), 0);
        check.that("type(32) to the cleared one", x.type(32), 1);
        x.undo();
        check.badState(x, "clearScript saves no state: undo()", () -> x.undo());
    }

    private static void fault(String text, int due) {
        SlownessImager x = new SlownessImager();
        Check.type(x, text);
        check.harmless(x, "run() of '" + text + "'", -10 - due, () -> x.run());
    }

    private static void faults() {
        fault(";", 0);
        fault("  ;", 2);
        fault("1", 0);
        fault("Fill;", 0);
        fault("fil;", 0);
        fault("  fil", 2);
        fault("fillx;", 0);
        fault("fill;;", 5);
        fault("fill; xyz 1;", 6);
        fault("fill;fIll;", 5);
        fault("fill1;", 4);
        fault("fill 1;", 5);
        fault("fill\t;", 4);
        fault("fill", 4);
        fault("fill  ", 6);
        fault("sweep", 5);
        fault("sweep ", 6);
        fault("sweep 1", 7);
        fault("sweep 1 ", 8);
        fault("sweep;", 5);
        fault("sweep ;", 6);
        fault("sweep1;", 5);
        fault("sweep -1;", 6);
        fault("sweep 1x;", 7);
        fault("sweep 1 x;", 8);
        fault("sweep 1 1;", 8);
        fault("sweep 0000001;", 12);
        fault("sweep 1234567", 12);
        fault("smooth 1,", 8);
        fault("take 1 2;", 7);
        fault("ray 1;", 5);
        fault("ray 1 ;", 6);
        fault("ray 1", 5);
        fault("ray 1 2", 7);
        fault("ray 1 2 3;", 8);
        fault("ray 1234567 1;", 10);
        fault("ray 1 1234567;", 12);
        fault("ray 1/2;", 5);
        fault("ray 1:2;", 5);
        fault("cell 1;", 6);
        fault("true 1;", 6);
        fault("use 1;", 5);
        fault("`", 0);
        fault("{", 0);
        fault("fill;\0", 5);
        fault("fill;" + (char) 127, 5);
        fault("cells 1 1;", 0);
        fault("fill; fill ; ray 0 0;x", 21);
        fault("fillz;", 0);
        fault("afill;", 0);
        fault("xill;", 0);
        fault("filk;", 0);
        fault("true 0 5;true 0 5!", 17);
        fault("z".repeat(120), 0);
        fault(" ".repeat(120 - 4) + "fill", 120);
        fault(" ".repeat(120 - 7) + "sweep 1", 120);
        fault(" ".repeat(120 - 8) + "sweep 1 ", 120);
        fault(" ".repeat(120 - 11) + "ray 1 23456", 120);
        fault(" ".repeat(120 - 12) + "sweep 123456", 120);
        fault(" ".repeat(120 - 13) + "sweep 1234567", 119);
    }

    /** Nothing of a script with a fault is done, be the fault ever so late. */
    private static void lateFault() {
        SlownessImager x = new SlownessImager();
        Check.type(x, "cell 0 5;true 0 5;ray 0 0;!");
        check.harmless(x, "run() with a late fault", -36, () -> x.run());
        check.badState(x, "run() with a fault saves no state: undo()", () -> x.undo());
    }

    private static void runEmpty() {
        SlownessImager x = new SlownessImager();
        check.undoable(x, "run() of no script", 0, () -> x.run());
        Check.type(x, "    ");
        check.undoable(x, "run() of spaces", 0, () -> x.run());
        Check.type(x, " ".repeat(120));
        check.undoable(x, "run() of 120 spaces", 0, () -> x.run());
    }

    private static void runCommands() {
        SlownessImager x = new SlownessImager();
        Check.type(x, "  ray 0 1;ray 000003   000003  ; true 5 700;take 0;take 7; cell 0 100000;use 1 0;");
        check.undoable(x, "run()", 7, () -> x.run());
        SlownessImager y = new SlownessImager();
        y.addRay(0, 1);
        y.addRay(3, 3);
        y.setTrue(5, 700);
        y.observe(0, 0);
        y.observe(7, 7);
        y.setCell(0, 100000);
        y.setUsed(1, false);
        compare("run()", x, y);
        check.that("run: the script stays", x.clearScript(), 81);
        Check.type(x, "use 1 999999;sweep 20;smooth 100;fill;sweep 1 ;smooth 1   ");
        x.type(';');
        check.that("run() again", x.run(), 6);
        y.setUsed(1, true);
        y.sweep(20);
        y.smooth(100);
        y.fill();
        y.sweep(1);
        y.smooth(1);
        compare("run() again", x, y);
        longestScript();
    }

    /** Each command alone does what it says and nothing more. */
    private static void runSingleCommands() {
        String[] scripts = {"ray 3 1;", "cell 15 7;", "true 15 7;", "take 999;", "sweep 2;", "smooth 3;",
            "fill;", "use 0 0;", "use 0 1;"};
        for (int i = 0; i < scripts.length; i++) {
            SlownessImager x = mixed();
            SlownessImager y = mixed();
            Check.type(x, scripts[i]);
            check.that("run() of '" + scripts[i] + "'", x.run(), 1);
            Check.type(y, scripts[i]);
            callOf(y, i);
            check.that("digest after '" + scripts[i] + "'", x.digest(), y.digest());
        }
    }

    private static SlownessImager mixed() {
        SlownessImager x = new SlownessImager();
        x.slope(true, 800, 77, 33);
        x.addRay(0, 3);
        x.addRay(2, 1);
        x.observe(30, 3);
        return x;
    }

    private static void callOf(SlownessImager y, int command) {
        switch (command) {
            case 0:
                y.addRay(3, 1);
                break;
            case 1:
                y.setCell(15, 7);
                break;
            case 2:
                y.setTrue(15, 7);
                break;
            case 3:
                y.observe(999, 999);
                break;
            case 4:
                y.sweep(2);
                break;
            case 5:
                y.smooth(3);
                break;
            case 6:
                y.fill();
                break;
            default:
                y.setUsed(0, command == 8);
                break;
        }
    }

    private static void compare(String what, SlownessImager got, SlownessImager due) {
        check.same(what + ": slownesses", Check.slownesses(got), Check.slownesses(due));
        check.same(what + ": true slownesses", Check.cells(got, 1), Check.cells(due, 1));
        check.same(what + ": coverages", Check.cells(got, 2), Check.cells(due, 2));
        check.that(what + ": rays", got.section(2), due.section(2));
        for (int ray = 0; ray < due.section(2); ray++) {
            check.same(what + ": way of " + ray, Check.way(got, ray), Check.way(due, ray));
            check.that(what + ": time of " + ray, got.time(ray, 1), due.time(ray, 1));
            check.that(what + ": use of " + ray, got.ray(ray, 2), due.ray(ray, 2));
        }
    }

    private static void longestScript() {
        SlownessImager x = new SlownessImager();
        Check.type(x, "fill;".repeat(24));
        check.that("run() of 24 commands", x.run(), 24);
        Check.type(x, "fill;".repeat(23) + "fill ");
        check.that("run() of 120 bytes, too soon at an end", x.run(), -130);
    }

    private static void stop(String text, int due) {
        SlownessImager x = new SlownessImager();
        x.addRay(0, 3);
        x.setTime(0, 7000000);
        Check.type(x, text);
        check.undoable(x, "run() of '" + text + "'", due, () -> x.run());
    }

    private static void runStops() {
        stop("ray 0 4;", 0);
        stop("fill;ray 4 0;fill;", 1);
        stop("cell 15 1;cell 16 1;", 1);
        stop("cell 0 0;fill;", 0);
        stop("cell 0 100000;cell 0 100001;", 1);
        stop("true 15 1;true 16 1;", 1);
        stop("true 0 0;", 0);
        stop("true 0 100000;true 0 100001;", 1);
        stop("take 1000;take 1001;", 1);
        stop("take 999999;", 0);
        stop("sweep 20;sweep 21;", 1);
        stop("sweep 0;", 0);
        stop("smooth 100;smooth 101;", 1);
        stop("smooth 0;", 0);
        stop("use 0 0;use 1 0;", 1);
        stop("use 999999 1;", 0);
        SlownessImager x = new SlownessImager();
        Check.type(x, "ray 0 0;".repeat(9));
        check.that("run() of nine rays", x.run(), 9);
        check.that("run() up to 16 rays", x.run(), 7);
        check.that("run() beyond 16 rays", x.run(), 0);
        check.that("run: rays", x.section(2), 16);
        SlownessImager y = new SlownessImager();
        Check.type(y, "cell 3 5;cell 99 5;cell 4 5;");
        check.that("run() that stops", y.run(), 1);
        check.that("run: done before it stopped", y.cell(3, 0), 5);
        check.that("run: not done then", y.cell(4, 0), 1000);
    }

    private static void runIsOneState() {
        SlownessImager x = new SlownessImager();
        Check.type(x, "cell 0 1;cell 1 2;cell 2 3;ray 0 0;");
        x.run();
        check.that("run saves one state: undo()", x.undo(), 0);
        check.that("run is undone", x.fit(4), 16000);
        check.that("run is undone: rays", x.section(2), 0);
        check.that("undo keeps the script", x.clearScript(), 35);
    }

    private static void undo() {
        SlownessImager x = new SlownessImager();
        x.setBounds(7, 70);
        x.setOrder(8, 3, 80);
        check.that("undo() of setOrder", x.undo(), 1);
        check.that("undone: relaxation", x.section(7), 1000);
        check.that("undone: order", x.section(8), 0);
        check.that("undo() of setBounds", x.undo(), 0);
        check.that("undone: lower bound", x.section(5), 1);
        check.that("undone: upper bound", x.section(6), 100000);
        check.badState(x, "undo() of nothing", () -> x.undo());
        x.addRay(0, 0);
        x.setTime(0, 5);
        x.setUsed(0, false);
        x.begin(6, 7);
        x.undo();
        check.that("undone: columns", x.section(0), 4);
        check.that("undone: rows", x.section(1), 4);
        check.that("undone: rays", x.section(2), 1);
        check.same("undone: the way", Check.way(x, 0), Check.list(0, 1, 2, 3));
        check.that("undone: not used", x.ray(0, 2), 0);
        x.undo();
        check.that("undone: used", x.ray(0, 2), 1);
        check.that("undone: observed", x.time(0, 1), 5);
        x.undo();
        check.that("undone: no time", x.time(0, 1), -1);
        x.setCell(1, 50000);
        check.that("undo: the way over corners", x.wayCell(0, 1), 5);
        x.undo();
        check.that("undone: the way", x.wayCell(0, 1), 1);
    }

    /** Rays that took the places of older ones leave no trace when the older ones come back. */
    private static void undoOverBegin() {
        SlownessImager x = new SlownessImager();
        x.addRay(0, 3);
        x.setUsed(0, false);
        x.begin(3, 3);
        x.addRay(2, 1);
        x.setTime(0, 9);
        x.undo();
        x.undo();
        check.that("undo() of begin", x.undo(), 1);
        check.that("undone: source", x.ray(0, 0), 0);
        check.that("undone: receiver", x.ray(0, 1), 3);
        check.that("undone: not used", x.ray(0, 2), 0);
        check.that("undone: no time", x.time(0, 1), -1);
        check.same("undone: the way", Check.way(x, 0), Check.list(0, 5, 10, 15));
    }

    private static void undoForgetsTheOldest() {
        SlownessImager x = new SlownessImager();
        for (int slowness = 1; slowness <= 6; slowness++) {
            x.setCell(0, slowness);
        }
        check.that("undo() of 6", x.undo(), 3);
        check.that("undone to 5", x.cell(0, 0), 5);
        x.setCell(0, 60);
        check.that("undo() of 60", x.undo(), 3);
        check.that("undone to 5 again", x.cell(0, 0), 5);
        check.that("undo() of 5", x.undo(), 2);
        check.that("undo() of 4", x.undo(), 1);
        check.that("undo() of 3", x.undo(), 0);
        check.that("undone to 2", x.cell(0, 0), 2);
        check.badState(x, "undo() of nothing left", () -> x.undo());
        x.setCell(0, 2);
        check.that("undo() of a call that changes nothing", x.undo(), 0);
    }

    private static void digest() {
        SlownessImager x = new SlownessImager();
        x.begin(2, 2);
        x.setOrder(900, 2, 77);
        x.setBounds(2, 90000);
        x.addRay(0, 1);
        x.addRay(1, 1);
        x.setTime(0, 2829000);
        x.setTrue(1, 950);
        x.type(65);
        long due = hash(4, 1, 2, 2, 2, 1, 2, 2, 90000, 900, 2, 77,
                1000, 1000, 1, 1414, 1000, 950, 0, 0, 1000, 1000, 0, 0, 1000, 1000, 1, 1414,
                0, 1, 1, 1, 2, 2828000, 2829000, 0, 3, 1, 1, 1, 0, 2, 2000000, -1, 2, 3,
                1000, 1000, 0, 50, 4000);
        check.harmless(x, "digest()", due, () -> x.digest());
        long[] fresh = new long[12 + 64 + 5];
        long[] head = {0, 0, 4, 4, 0, 0, 16, 1, 100000, 1000, 0, 0};
        long[] tail = {0, 0, -1, 0, 16000};
        System.arraycopy(head, 0, fresh, 0, 12);
        for (int cell = 0; cell < 16; cell++) {
            fresh[12 + 4 * cell] = 1000;
            fresh[13 + 4 * cell] = 1000;
        }
        System.arraycopy(tail, 0, fresh, 76, 5);
        check.that("digest() of a new object", new SlownessImager().digest(), hash(fresh));
    }
}
