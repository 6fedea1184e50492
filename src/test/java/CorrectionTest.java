import java.util.ArrayList;
import java.util.List;

/** Promises 11 to 15: corrections, sweeps and their orders, smoothing and filling. */
final class CorrectionTest {
    private static final Check check = new Check("CorrectionTest");

    public static void main(String[] args) {
        setOrder();
        correct();
        correctRounds();
        correctKeepsBounds();
        correctOverCorners();
        sweepRefuses();
        sweepInOrder();
        sweepByResiduals();
        sweepTwiceByResiduals();
        sweepAtRandom();
        sweepCrowded();
        smooth();
        fill();
        check.end();
    }

    private static void setOrder() {
        SlownessImager x = new SlownessImager();
        check.undoable(x, "setOrder(1, 3, 999999)", 1000, () -> x.setOrder(1, 3, 999999));
        check.that("setOrder: relaxation", x.section(7), 1);
        check.that("setOrder: order", x.section(8), 3);
        check.that("setOrder(2000, 0, 0)", x.setOrder(2000, 0, 0), 1);
        check.that("setOrder(5, 1, 1)", x.setOrder(5, 1, 1), 2000);
        check.badArgument(x, "setOrder(0, 0, 0)", () -> x.setOrder(0, 0, 0));
        check.badArgument(x, "setOrder(2001, 0, 0)", () -> x.setOrder(2001, 0, 0));
        check.badArgument(x, "setOrder(1, -1, 0)", () -> x.setOrder(1, -1, 0));
        check.badArgument(x, "setOrder(1, 4, 0)", () -> x.setOrder(1, 4, 0));
        check.badArgument(x, "setOrder(1, 0, -1)", () -> x.setOrder(1, 0, -1));
        check.badArgument(x, "setOrder(1, 0, 1000000)", () -> x.setOrder(1, 0, 1000000));
    }

    /** Two columns and two rows; ray 0 goes straight from cell 0 to 1, in 2000000 at first. */
    private static SlownessImager small(long observed) {
        SlownessImager x = new SlownessImager();
        x.begin(2, 2);
        x.addRay(0, 0);
        x.setTime(0, observed);
        return x;
    }

    private static void correct() {
        SlownessImager x = small(2100000);
        check.undoable(x, "correct(0)", 2, () -> x.correct(0));
        check.same("correct: slownesses", Check.slownesses(x), Check.list(1050, 1050, 1000, 1000));
        check.that("correct: no residual", x.residual(0), 0);
        check.that("correct(0), again", x.correct(0), 0);
        SlownessImager y = small(2100000);
        y.setOrder(500, 0, 0);
        y.setUsed(0, false);
        check.that("correct(0), not used", y.correct(0), 2);
        check.same("correct by half", Check.slownesses(y), Check.list(1025, 1025, 1000, 1000));
        y.setOrder(2000, 0, 0);
        check.that("correct(0), twice as much", y.correct(0), 2);
        check.same("correct twice as much", Check.slownesses(y), Check.list(1075, 1075, 1000, 1000));
        y.addRay(1, 1);
        check.badState(y, "correct(1) without a time", () -> y.correct(1));
        check.badIndex(y, "correct(2)", () -> y.correct(2));
        check.badIndex(y, "correct(-1)", () -> y.correct(-1));
        y.setTime(0, -1);
        check.badState(y, "correct(0) without a time", () -> y.correct(0));
    }

    /** A residual of e gives 1000 * e * 1000 / (1000 * 2000000) = e / 2000 to each cell. */
    private static void correctRounds() {
        long[] residuals = {999, 1000, 2999, 3000, -1000, -1001, -3000, -3001};
        long[] steps = {0, 1, 1, 2, 0, -1, -1, -2};
        for (int i = 0; i < residuals.length; i++) {
            SlownessImager x = small(2000000 + residuals[i]);
            check.that("correct by " + residuals[i], x.correct(0), steps[i] == 0 ? 0 : 2);
            check.that("corrected by " + residuals[i], x.cell(0, 0), 1000 + steps[i]);
        }
    }

    private static void correctKeepsBounds() {
        SlownessImager x = small(2100000);
        x.setBounds(990, 1049);
        x.correct(0);
        check.same("correct: upper bound", Check.slownesses(x), Check.list(1049, 1049, 1000, 1000));
        SlownessImager y = small(0);
        y.setBounds(20, 100);
        y.correct(0);
        check.same("correct: lower bound", Check.slownesses(y), Check.list(20, 20, 1000, 1000));
        SlownessImager z = small(2000000);
        z.setBounds(1001, 2000);
        check.that("correct: bounds without a residual", z.correct(0), 2);
        check.same("correct: only cells of the way", Check.slownesses(z), Check.list(1001, 1001, 1000, 1000));
        SlownessImager one = small(2300000);
        one.setCell(0, 1050);
        one.setBounds(1, 1050);
        check.that("correct: one cell", one.correct(0), 1);
        check.that("correct: the way knows of one cell", one.time(0, 0), 2100000);
        SlownessImager far = small(100000000000L);
        far.setOrder(2000, 0, 0);
        far.correct(0);
        check.that("correct: the greatest residual", far.cell(0, 0), 100000);
    }

    /** The way 0, 5, 10, 15 has the lengths 1414, 2828, 2828, 1414; their squares add to 19993960. */
    private static void correctOverCorners() {
        SlownessImager x = new SlownessImager();
        x.addRay(0, 3);
        x.setTime(0, 8484000 + 1999396);
        check.that("correct: a way over corners", x.correct(0), 4);
        check.that("correct: at an end", x.cell(0, 0), 1141);
        check.that("correct: between", x.cell(5, 0), 1283);
        check.that("correct: between", x.cell(10, 0), 1283);
        check.that("correct: at an end", x.cell(15, 0), 1141);
    }

    private static void sweepRefuses() {
        SlownessImager x = small(2100000);
        check.badArgument(x, "sweep(0)", () -> x.sweep(0));
        check.badArgument(x, "sweep(21)", () -> x.sweep(21));
        check.badArgument(x, "sweep(-1)", () -> x.sweep(-1));
        x.setTime(0, -1);
        check.undoable(x, "sweep(20) without active rays", 0, () -> x.sweep(20));
        x.setTime(0, 2100000);
        check.undoable(x, "sweep(1)", 1, () -> x.sweep(1));
        check.that("sweep: corrected", x.cell(0, 0), 1050);
    }

    /** Rays that share cells, so that each order of them gives other slownesses. */
    private static SlownessImager crossed() {
        SlownessImager x = new SlownessImager();
        x.begin(5, 4);
        x.slope(true, 700, 130, 90);
        x.addRay(0, 3);
        x.addRay(3, 0);
        x.addRay(1, 1);
        x.addRay(2, 1);
        x.addRay(0, 0);
        x.addRay(0, 1);
        x.observe(300, 5);
        x.setUsed(4, false);
        return x;
    }

    private static void compare(String what, SlownessImager swept, int... rays) {
        SlownessImager y = crossed();
        correctInTurn(y, rays);
        check.same(what, Check.slownesses(swept), Check.slownesses(y));
    }

    private static void sweepInOrder() {
        SlownessImager x = crossed();
        check.that("sweep in order 0", x.sweep(2), 10);
        compare("sweep in order 0", x, 0, 1, 2, 3, 5, 0, 1, 2, 3, 5);
        SlownessImager y = crossed();
        y.setOrder(1000, 1, 0);
        check.that("sweep in order 1", y.sweep(2), 10);
        compare("sweep in order 1", y, 5, 3, 2, 1, 0, 5, 3, 2, 1, 0);
    }

    private static void sweepByResiduals() {
        SlownessImager x = crossed();
        x.setTime(0, x.time(0, 0) - 50000);
        x.setTime(1, x.time(1, 0) + 20000);
        x.setTime(2, x.time(2, 0) - 50000);
        x.setTime(3, x.time(3, 0) + 90000);
        x.setTime(5, x.time(5, 0) + 50000);
        SlownessImager y = crossed();
        for (int ray = 0; ray < 6; ray++) {
            y.setTime(ray, x.time(ray, 1));
        }
        x.setOrder(1000, 2, 0);
        check.that("sweep in order 2", x.sweep(1), 5);
        correctInTurn(y, 3, 0, 2, 5, 1);
        check.same("sweep in order 2", Check.slownesses(x), Check.slownesses(y));
        SlownessImager z = crossed();
        SlownessImager w = crossed();
        for (int ray = 0; ray < 6; ray++) {
            z.setTime(ray, z.time(ray, 0) + 10000 * ray);
            w.setTime(ray, w.time(ray, 0) + 10000 * ray);
        }
        z.setOrder(1000, 2, 0);
        z.sweep(1);
        correctInTurn(w, 5, 3, 2, 1, 0);
        check.same("sweep in order 2, backwards", Check.slownesses(z), Check.slownesses(w));
    }

    private static void correctInTurn(SlownessImager x, int... rays) {
        for (int ray : rays) {
            x.correct(ray);
        }
    }

    /** The residuals are those at the beginning of each sweep, not of the call. */
    private static void sweepTwiceByResiduals() {
        SlownessImager x = crossed();
        x.setOrder(1000, 2, 0);
        check.that("sweep(2) in order 2", x.sweep(2), 10);
        SlownessImager y = crossed();
        y.setOrder(1000, 2, 0);
        y.sweep(1);
        y.sweep(1);
        check.same("sweep(2) in order 2", Check.slownesses(x), Check.slownesses(y));
    }

    /** Sixteen rays, all active, are the most that there can be. */
    private static void sweepCrowded() {
        for (int order = 0; order <= 3; order++) {
            SlownessImager x = new SlownessImager();
            x.begin(8, 8);
            x.slope(true, 500, 60, 40);
            for (int ray = 0; ray < 16; ray++) {
                x.addRay(ray % 8, (3 * ray + ray / 8) % 8);
            }
            check.that("observe of 16 rays", x.observe(1000, 999999), 16);
            x.setOrder(1000, order, 999999);
            long before = x.fit(0);
            check.that("sweep(20) of 16 rays", x.sweep(20), 320);
            check.that("sweep(20) of 16 rays: the fit is better", x.fit(0) < before ? 1 : 0, 1);
            x.fill();
            x.digest();
            x.slope(false, 1000, 0, 0);
            check.that("smooth of 64 equal cells", x.smooth(1), 0);
        }
    }

    /** Two sweeps in one call, then one more: the number s goes on from sweep to sweep. */
    private static void sweepAtRandom() {
        for (int seed = 0; seed < 6; seed++) {
            SlownessImager x = crossed();
            x.setOrder(1000, 3, seed);
            check.that("sweep in order 3", x.sweep(2), 10);
            x.sweep(1);
            SlownessImager y = crossed();
            long s = seed;
            for (int sweep = 0; sweep < 3; sweep++) {
                List<Integer> left = new ArrayList<>(List.of(0, 1, 2, 3, 5));
                while (!left.isEmpty()) {
                    s = (1103515245L * s + 12345) % 2147483648L;
                    y.correct(left.remove((int) (s / 65536 % left.size())));
                }
            }
            check.same("sweep in order 3 from " + seed, Check.slownesses(x), Check.slownesses(y));
        }
    }

    private static void smooth() {
        SlownessImager y = new SlownessImager();
        y.begin(2, 2);
        y.slope(false, 1000, 1000, 2000);
        y.addRay(0, 0);
        check.that("smooth: way before", y.time(0, 0), 3000000);
        check.undoable(y, "smooth(1)", 4, () -> y.smooth(1));
        check.same("smooth: slownesses", Check.slownesses(y), Check.list(2000, 2333, 2667, 3000));
        check.that("smooth: the way knows", y.time(0, 0), 4333000);
        SlownessImager z = new SlownessImager();
        z.begin(3, 2);
        z.setCell(1, 1002);
        z.setBounds(5, 6);
        check.that("smooth(2), no bounds", z.smooth(2), 3);
        check.same("smooth: halves upwards", Check.slownesses(z), Check.list(1001, 1001, 1001, 1000, 1000, 1000));
        SlownessImager w = new SlownessImager();
        w.setCell(5, 1104);
        check.that("smooth(100)", w.smooth(100), 5);
        check.that("smooth: the middle", w.cell(5, 0), 1100);
        check.that("smooth: a side", w.cell(4, 0), 1001);
        check.that("smooth: over a corner", w.cell(0, 0), 1000);
        check.badArgument(w, "smooth(0)", () -> w.smooth(0));
        check.badArgument(w, "smooth(101)", () -> w.smooth(101));
        check.badArgument(w, "smooth(-1)", () -> w.smooth(-1));
    }

    private static void fill() {
        SlownessImager x = new SlownessImager();
        x.begin(2, 4);
        x.setBounds(3, 4);
        x.slope(false, 1000, 1001, 5000);
        x.addRay(0, 0);
        check.that("fill: no active ray", x.fill(), 0);
        x.setTime(0, 5);
        check.undoable(x, "fill()", 2, () -> x.fill());
        check.same("fill: slownesses", Check.slownesses(x),
                Check.list(1000, 2001, 1501, 1501, 11000, 12001, 16000, 17001));
        check.that("fill(), again", x.fill(), 0);
        x.setUsed(0, false);
        x.setCell(3, 77);
        check.that("fill: the ray is not used", x.fill(), 0);
        fillOverCorners();
    }

    /** The ray covers 0, 5, 10 and 15; cells 3 and 12 have no covered neighbour. */
    private static void fillOverCorners() {
        SlownessImager x = new SlownessImager();
        x.setCell(0, 400);
        x.setCell(5, 500);
        x.setCell(10, 600);
        x.setCell(15, 800);
        x.addRay(0, 3);
        x.setTime(0, 1);
        check.that("fill: over corners", x.fill(), 10);
        check.same("fill: slownesses", Check.slownesses(x), Check.list(
                400, 450, 500, 1000, 450, 500, 550, 600, 500, 550, 600, 700, 1000, 600, 700, 800));
        check.that("fill: uncovered", x.section(4), 12);
    }
}
