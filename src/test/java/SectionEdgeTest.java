/**
 * The boundary cases of promises 1 to 10 and of what the description says of cells, times and rays:
 * a test for each sentence that names one, with the sentence in front of it.
 */
final class SectionEdgeTest {
    private static final Check check = new Check("SectionEdgeTest");
    private static final int MIN = Integer.MIN_VALUE;
    private static final int MAX = Integer.MAX_VALUE;

    public static void main(String[] args) {
        check.runAll(SectionEdgeTest.class);
        check.end();
    }

    private static SlownessImager sized(int columns, int rows) {
        SlownessImager x = new SlownessImager();
        x.begin(columns, rows);
        return x;
    }

    /** An object with so many rays, all from row 0 to row 0. */
    private static SlownessImager withRays(int count) {
        SlownessImager x = new SlownessImager();
        for (int ray = 0; ray < count; ray++) {
            x.addRay(0, 0);
        }
        return x;
    }

    // ---- promise 1: a new object

    /** "W columns and H rows (.. 4 and 4 at first)" */
    private static void newSectionHasFourColumnsAndRows() {
        SlownessImager x = new SlownessImager();
        check.that("columns", x.section(0), 4);
        check.that("rows", x.section(1), 4);
        check.that("the last cell", x.cell(15, 0), 1000);
        check.badIndex(x, "a cell behind the last one", () -> x.cell(16, 0));
        check.badIndex(x, "a row behind the last one", () -> x.addRay(4, 3));
        check.that("the last row", x.addRay(3, 3), 0);
    }

    /** "both are 1000 at first" */
    private static void newSlownessesAre1000() {
        SlownessImager x = new SlownessImager();
        long[] due = new long[16];
        java.util.Arrays.fill(due, 1000);
        check.same("slownesses", Check.cells(x, 0), due);
        check.same("true slownesses", Check.cells(x, 1), due);
    }

    /** "a lower and an upper bound (1 and 100000 at first ..)" */
    private static void newBoundsAreTheWidest() {
        SlownessImager x = new SlownessImager();
        check.that("lower", x.section(5), 1);
        check.that("upper", x.section(6), 100000);
    }

    /** "Creates a section as described, without rays" */
    private static void newObjectHasNoRays() {
        SlownessImager x = new SlownessImager();
        check.that("rays", x.section(2), 0);
        check.that("active rays", x.section(3), 0);
        check.badIndex(x, "setUsed(0, true)", () -> x.setUsed(0, true));
        check.badIndex(x, "setTime(0, 0)", () -> x.setTime(0, 0));
        check.badIndex(x, "correct(0)", () -> x.correct(0));
        check.badIndex(x, "ray(0, 0)", () -> x.ray(0, 0));
        check.badIndex(x, "time(0, 0)", () -> x.time(0, 0));
        check.badIndex(x, "residual(0)", () -> x.residual(0));
        check.badIndex(x, "wayCell(0, 0)", () -> x.wayCell(0, 0));
        check.badIndex(x, "length(0, 0)", () -> x.length(0, 0));
        check.badIndex(x, "whatIf(0, 0, 1000)", () -> x.whatIf(0, 0, 1000));
        check.that("the first ray", x.addRay(0, 0), 0);
    }

    /** ".. with the order 0": the first sweep goes up, not down. */
    private static void newOrderIsZero() {
        check.that("order", new SlownessImager().section(8), 0);
        SlownessImager x = crossed();
        SlownessImager y = crossed();
        x.sweep(1);
        y.correct(0);
        y.correct(1);
        check.same("slownesses", Check.slownesses(x), Check.slownesses(y));
    }

    private static SlownessImager crossed() {
        SlownessImager x = new SlownessImager();
        x.addRay(0, 3);
        x.addRay(3, 0);
        x.setTime(0, 9000000);
        x.setTime(1, 6000000);
        return x;
    }

    /** ".. the number s 0": the same as if it had been set so, and another one is not the same. */
    private static void newNumberIsZero() {
        SlownessImager x = new SlownessImager();
        SlownessImager y = new SlownessImager();
        SlownessImager z = new SlownessImager();
        x.setBounds(1, 100000);
        y.setOrder(1000, 0, 0);
        z.setOrder(1000, 0, 1);
        check.that("as set to 0", x.digest(), y.digest());
        check.that("not as set to 1", x.digest() == z.digest() ? 1 : 0, 0);
    }

    /** ".. an empty script" */
    private static void newScriptIsEmpty() {
        check.that("its length", new SlownessImager().clearScript(), 0);
        check.that("its run", new SlownessImager().run(), 0);
        check.that("its first byte", new SlownessImager().type(0), 1);
    }

    /** ".. and an empty undo stack." */
    private static void newStackIsEmpty() {
        SlownessImager x = new SlownessImager();
        check.badState(x, "undo()", () -> x.undo());
        x.fill();
        check.that("undo() of the first call", x.undo(), 0);
    }

    /** A new object is as described, whatever another one has been through. */
    private static void newObjectsShareNothing() {
        long due = new SlownessImager().digest();
        SlownessImager x = new SlownessImager();
        SlownessImager other = new SlownessImager();
        other.begin(8, 8);
        other.slope(false, 5, 6, 7);
        other.slope(true, 7, 6, 5);
        other.addRay(7, 0);
        other.observe(1000, 1);
        other.setOrder(5, 3, 5);
        other.setBounds(7, 8);
        other.sweep(1);
        Check.type(other, "fill;");
        check.that("one made before", x.digest(), due);
        check.that("one made then", new SlownessImager().digest(), due);
        check.that("the run of one made before", x.run(), 0);
    }

    // ---- promise 2: begin

    /** "columns: 2 to 8" */
    private static void beginTakesTwoToEightColumns() {
        SlownessImager x = new SlownessImager();
        check.badArguments(x, "columns", 2, 8, columns -> x.begin(columns, 5));
        check.that("2 columns", x.begin(2, 5), 10);
        check.that("8 columns", x.begin(8, 5), 40);
        check.badArgument(x, "columns that make no cells, wrapped around", () -> x.begin(1 << 30, 4));
    }

    /** "rows: 2 to 8" */
    private static void beginTakesTwoToEightRows() {
        SlownessImager x = new SlownessImager();
        check.badArguments(x, "rows", 2, 8, rows -> x.begin(5, rows));
        check.that("2 rows", x.begin(5, 2), 10);
        check.that("8 rows", x.begin(5, 8), 40);
    }

    /** "Throws IllegalArgumentException if columns or rows is out of range": also if both are. */
    private static void beginRefusesBothSides() {
        SlownessImager x = new SlownessImager();
        int[] bad = {1, 9, 0, -4, 65536, MIN, MAX};
        for (int side : bad) {
            check.badArgument(x, "begin(" + side + ", " + side + ")", () -> x.begin(side, side));
        }
        check.badArgument(x, "begin(16, 1)", () -> x.begin(16, 1));
        check.badArgument(x, "begin(1, 16)", () -> x.begin(1, 16));
    }

    /** "W columns and H rows (2 to 8 each ..); cell W * y + x is in the column x and the row y." */
    private static void beginMakesEverySize() {
        for (int columns = 2; columns <= 8; columns++) {
            for (int rows = 2; rows <= 8; rows++) {
                SlownessImager x = new SlownessImager();
                String what = columns + " by " + rows;
                check.that(what, x.begin(columns, rows), columns * rows);
                check.that(what + ": columns", x.section(0), columns);
                check.that(what + ": rows", x.section(1), rows);
                check.that(what + ": uncovered cells", x.section(4), columns * rows);
                check.that(what + ": sum", x.fit(4), 1000 * columns * rows);
                int cells = columns * rows;
                check.badIndexes(x, what + ": cell", 0, cells - 1, cell -> x.cell(cell, 1));
                x.slope(false, 1000, 1, 10);
                check.that(what + ": the last cell", x.cell(cells - 1, 0), 999 + columns + 10 * (rows - 1));
                check.that(what + ": the end of a row", x.cell(columns - 1, 0), 999 + columns);
                check.that(what + ": the start of a row", x.cell(columns, 0), 1010);
            }
        }
    }

    /** "there are no rays", also after sixteen, and the next one is as new. */
    private static void beginForgetsSixteenRays() {
        SlownessImager x = withRays(16);
        for (int ray = 0; ray < 16; ray++) {
            x.setTime(ray, ray);
            x.setUsed(ray, false);
        }
        x.begin(4, 4);
        check.that("rays", x.section(2), 0);
        check.badIndex(x, "ray 0", () -> x.ray(0, 0));
        for (int ray = 0; ray < 16; ray++) {
            check.that("a new ray", x.addRay(1, 2), ray);
            check.that("its source", x.ray(ray, 0), 1);
            check.that("it is used", x.ray(ray, 2), 1);
            check.that("it has no time", x.time(ray, 1), -1);
        }
    }

    /** "all slownesses and true slownesses are 1000", in all cells that there are then. */
    private static void beginForgetsSlownesses() {
        SlownessImager x = sized(8, 8);
        x.slope(false, 5, 6, 7);
        x.slope(true, 7, 6, 5);
        x.begin(8, 8);
        check.that("sum", x.fit(4), 64000);
        check.that("differences", x.fit(3), 0);
        x.slope(false, 5, 6, 7);
        x.slope(true, 5, 6, 7);
        x.begin(2, 2);
        check.that("sum of less", x.fit(4), 4000);
        check.that("a true one", x.cell(3, 1), 1000);
        x.begin(8, 8);
        check.that("sum of more", x.fit(4), 64000);
        check.that("the last true one", x.cell(63, 1), 1000);
    }

    /** "bounds, relaxation, order and the number s stay." */
    private static void beginKeepsTheRest() {
        SlownessImager x = new SlownessImager();
        SlownessImager y = new SlownessImager();
        x.setBounds(100000, 100000);
        x.setOrder(2000, 3, 999999);
        y.begin(2, 2);
        y.begin(3, 2);
        check.that("begin", x.begin(2, 2) + x.begin(3, 2), 10);
        y.setBounds(100000, 100000);
        y.setOrder(2000, 3, 999999);
        check.that("as if set then", x.digest(), y.digest());
    }

    /** "Begins anew with a size": the script stays, it is no part of the section. */
    private static void beginKeepsTheScript() {
        SlownessImager x = new SlownessImager();
        Check.type(x, "cell 3 7;");
        x.begin(2, 2);
        check.that("run()", x.run(), 1);
        check.that("it was kept", x.cell(3, 0), 7);
        check.that("clearScript()", x.clearScript(), 9);
    }

    // ---- promises 3 and 4: setCell and setTrue

    /** "cell: 0 to W * H - 1" */
    private static void setCellTakesTheCellsThatThereAre() {
        int[][] sizes = {{2, 2}, {2, 8}, {8, 2}, {4, 4}, {8, 8}};
        for (int[] size : sizes) {
            SlownessImager x = sized(size[0], size[1]);
            int last = size[0] * size[1] - 1;
            check.badIndexes(x, "setCell", 0, last, cell -> x.setCell(cell, 5));
            check.badIndexes(x, "setTrue", 0, last, cell -> x.setTrue(cell, 5));
            check.that("setCell of the first", x.setCell(0, 5), 1000);
            check.that("setCell of the last", x.setCell(last, 6), 1000);
            check.that("setTrue of the first", x.setTrue(0, 7), 1000);
            check.that("setTrue of the last", x.setTrue(last, 8), 1000);
            check.that("the first", x.cell(0, 0), 5);
            check.that("the last", x.cell(last, 0), 6);
            check.that("the first true one", x.cell(0, 1), 7);
            check.that("the last true one", x.cell(last, 1), 8);
        }
    }

    /** "slowness: 1 to 100000", and "Returns the previous slowness." */
    private static void setCellTakesOneTo100000() {
        SlownessImager x = new SlownessImager();
        check.badArguments(x, "setCell", 1, 100000, slowness -> x.setCell(3, slowness));
        check.that("setCell(3, 1)", x.setCell(3, 1), 1000);
        check.that("setCell(3, 100000)", x.setCell(3, 100000), 1);
        check.that("setCell(3, 100000), again", x.setCell(3, 100000), 100000);
        check.that("setCell(3, 2)", x.setCell(3, 2), 100000);
        check.that("the neighbour", x.cell(2, 0), 1000);
    }

    /** "slowness: 1 to 100000", and "Returns the previous true slowness." */
    private static void setTrueTakesOneTo100000() {
        SlownessImager x = new SlownessImager();
        check.badArguments(x, "setTrue", 1, 100000, slowness -> x.setTrue(3, slowness));
        check.that("setTrue(3, 1)", x.setTrue(3, 1), 1000);
        check.that("setTrue(3, 100000)", x.setTrue(3, 100000), 1);
        check.that("setTrue(3, 100000), again", x.setTrue(3, 100000), 100000);
        check.that("setTrue(3, 2)", x.setTrue(3, 2), 100000);
        check.that("not the slowness", x.cell(3, 0), 1000);
    }

    /** "If several exceptions of a method apply, the one that is listed first is thrown." */
    private static void setCellRefusesTheCellFirst() {
        SlownessImager x = new SlownessImager();
        int[] cells = {-1, 16, MIN, MAX};
        int[] slownesses = {0, 100001, MIN, MAX};
        for (int i = 0; i < 4; i++) {
            int cell = cells[i];
            int slowness = slownesses[i];
            check.badIndex(x, "setCell", () -> x.setCell(cell, slowness));
            check.badIndex(x, "setTrue", () -> x.setTrue(cell, slowness));
        }
    }

    /** "they only matter where it is told" (the bounds): not where slownesses are set. */
    private static void setCellLooksAtNoBounds() {
        SlownessImager x = new SlownessImager();
        x.setBounds(500, 600);
        x.setCell(0, 499);
        x.setCell(1, 601);
        x.setTrue(0, 1);
        check.that("below the lower one", x.cell(0, 0), 499);
        check.that("above the upper one", x.cell(1, 0), 601);
        check.that("a true one", x.cell(0, 1), 1);
        x.slope(false, 100000, 0, 0);
        check.that("by a slope", x.cell(0, 0), 100000);
        check.that("in a what-if question", x.addRay(0, 0) + x.whatIf(0, 0, 1), -99999000);
    }

    // ---- promise 5: slope

    /** "a: 1 to 100000" */
    private static void slopeTakesOneTo100000() {
        SlownessImager x = new SlownessImager();
        check.badArguments(x, "slope(true)", 1, 100000, a -> x.slope(true, a, 0, 0));
        check.badArguments(x, "slope(false)", 1, 100000, a -> x.slope(false, a, 0, 0));
        check.that("a = 1", x.slope(true, 1, 0, 0), 16);
        check.that("the last cell", x.cell(15, 1), 1);
        check.that("a = 100000", x.slope(false, 100000, 0, 0), 16);
        check.that("the last cell", x.cell(15, 0), 100000);
    }

    /** "b: -10000 to 10000" */
    private static void slopeRisesInColumns() {
        SlownessImager x = sized(2, 2);
        check.badArguments(x, "b", -10000, 10000, b -> x.slope(false, 50000, b, 0));
        check.that("b = 10000", x.slope(false, 50000, 10000, 0), 4);
        check.same("b = 10000", Check.slownesses(x), Check.list(50000, 60000, 50000, 60000));
        check.that("b = -10000", x.slope(false, 50000, -10000, 0), 2);
        check.same("b = -10000", Check.slownesses(x), Check.list(50000, 40000, 50000, 40000));
    }

    /** "c: -10000 to 10000" */
    private static void slopeRisesInRows() {
        SlownessImager x = sized(2, 2);
        check.badArguments(x, "c", -10000, 10000, c -> x.slope(true, 50000, 0, c));
        check.that("c = 10000", x.slope(true, 50000, 0, 10000), 4);
        check.same("c = 10000", Check.cells(x, 1), Check.list(50000, 50000, 60000, 60000));
        check.that("c = -10000", x.slope(true, 50000, 0, -10000), 2);
        check.same("c = -10000", Check.cells(x, 1), Check.list(50000, 50000, 40000, 40000));
    }

    /** ".. but at least 1": sums of 2, 1, 0 and -1, and the least sum of all. */
    private static void slopeGivesAtLeastOne() {
        SlownessImager x = sized(4, 2);
        x.slope(false, 2, -1, -3);
        check.same("around 1", Check.slownesses(x), Check.list(2, 1, 1, 1, 1, 1, 1, 1));
        SlownessImager y = sized(8, 8);
        check.that("far below 1", y.slope(true, 1, -10000, -10000), 64);
        check.that("the last cell", y.cell(63, 1), 1);
        check.that("the first cell", y.cell(0, 1), 1);
    }

    /** ".. and at most 100000": sums of 99999, 100000 and 100001, and the greatest sum of all. */
    private static void slopeGivesAtMost100000() {
        SlownessImager x = sized(4, 2);
        x.slope(true, 99998, 1, 3);
        check.same("around 100000", Check.cells(x, 1),
                Check.list(99998, 99999, 100000, 100000, 100000, 100000, 100000, 100000));
        SlownessImager y = sized(8, 8);
        check.that("far above 100000", y.slope(false, 100000, 10000, 10000), 64);
        check.that("the last cell", y.cell(63, 0), 100000);
    }

    /** "Returns the number of cells that have another value then.": what is clamped to the same is not. */
    private static void slopeCountsOtherValues() {
        SlownessImager x = sized(3, 2);
        check.that("none", x.slope(false, 1000, 0, 0), 0);
        x.slope(false, 100000, 0, 0);
        check.that("none beyond the greatest", x.slope(false, 100000, 10000, 10000), 0);
        check.that("all but the last", x.slope(false, 99997, 1, 1), 5);
        check.that("the first row", x.slope(false, 99996, 1, 2), 3);
        x.slope(false, 1, 0, 0);
        check.that("none below the least", x.slope(false, 1, -1, -1), 0);
        check.that("the true ones are apart", x.slope(true, 1000, 0, 0), 0);
    }

    // ---- promise 6: setBounds

    /** "upper: 1 to 100000" */
    private static void setBoundsTakesUppersFromOne() {
        SlownessImager x = new SlownessImager();
        check.badArguments(x, "upper", 1, 100000, upper -> x.setBounds(1, upper));
        check.that("upper = 1", x.setBounds(1, 1), 16);
        check.that("upper = 100000", x.setBounds(1, 100000), 0);
    }

    /** "lower: 1 to upper" */
    private static void setBoundsTakesLowersUpToTheUpper() {
        int[] uppers = {1, 2, 1000, 100000};
        for (int upper : uppers) {
            SlownessImager x = new SlownessImager();
            check.badArguments(x, "lower to " + upper, 1, upper, lower -> x.setBounds(lower, upper));
            x.setBounds(1, upper);
            check.that("lower = 1", x.section(5), 1);
            x.setBounds(upper, upper);
            check.that("lower = upper", x.section(5), upper);
            check.that("upper", x.section(6), upper);
        }
    }

    /** "Throws IllegalArgumentException if lower or upper is out of range": also if both are. */
    private static void setBoundsRefusesBoth() {
        SlownessImager x = new SlownessImager();
        int[] bad = {0, -1, 100001, MIN, MAX};
        for (int bound : bad) {
            check.badArgument(x, "both " + bound, () -> x.setBounds(bound, bound));
        }
    }

    /** "Returns the number of cells whose slowness is outside of the bounds.": a bound is inside. */
    private static void setBoundsCountsCellsOutside() {
        SlownessImager x = sized(2, 2);
        x.setCell(0, 499);
        x.setCell(1, 500);
        x.setCell(2, 600);
        x.setCell(3, 601);
        check.that("one on each side", x.setBounds(500, 600), 2);
        check.that("none", x.setBounds(499, 601), 0);
        check.that("one below", x.setBounds(500, 601), 1);
        check.that("one above", x.setBounds(499, 600), 1);
        check.that("all", x.setBounds(501, 599), 4);
        x.slope(true, 5, 0, 0);
        check.that("not the true ones", x.setBounds(499, 601), 0);
    }

    /** "The slownesses stay as they are." */
    private static void setBoundsKeepsSlownesses() {
        SlownessImager x = sized(2, 2);
        x.slope(false, 100, 10, 1);
        x.setBounds(105, 105);
        check.same("slownesses", Check.slownesses(x), Check.list(100, 110, 101, 111));
        x.slope(true, 100, 10, 1);
        x.setBounds(100000, 100000);
        check.that("and the true ones", x.fit(3), 0);
    }

    // ---- promise 7: addRay

    /** "source: 0 to H - 1": rows, not columns. */
    private static void addRayTakesTheSourcesThatThereAre() {
        int[][] sizes = {{2, 2}, {8, 2}, {2, 8}, {8, 8}};
        for (int[] size : sizes) {
            SlownessImager x = sized(size[0], size[1]);
            int last = size[1] - 1;
            check.badIndexes(x, "source", 0, last, source -> x.addRay(source, 0));
            check.that("the last source", x.addRay(last, 0), 0);
            check.that("the first source", x.addRay(0, 0), 1);
            check.that("its way starts in the last row", x.wayCell(0, 0), size[0] * last);
        }
    }

    /** "receiver: 0 to H - 1": rows, not columns. */
    private static void addRayTakesTheReceiversThatThereAre() {
        int[][] sizes = {{2, 2}, {8, 2}, {2, 8}, {8, 8}};
        for (int[] size : sizes) {
            SlownessImager x = sized(size[0], size[1]);
            int last = size[1] - 1;
            check.badIndexes(x, "receiver", 0, last, receiver -> x.addRay(0, receiver));
            check.badIndexes(x, "both", 0, last, row -> x.addRay(row, row));
            check.that("the last receiver", x.addRay(0, last), 0);
            check.that("its way ends in the last cell", x.wayCell(0, x.ray(0, 4) - 1), size[0] * size[1] - 1);
        }
    }

    /** "There are at most 16 rays, numbered from 0." */
    private static void addRayStopsAtSixteen() {
        SlownessImager x = withRays(15);
        check.that("the sixteenth", x.addRay(3, 3), 15);
        check.badState(x, "a seventeenth", () -> x.addRay(3, 3));
        check.that("rays", x.section(2), 16);
        check.that("the sixteenth is there", x.ray(15, 0), 3);
        check.badIndex(x, "no seventeenth", () -> x.ray(16, 0));
        x.undo();
        check.that("the sixteenth again", x.addRay(2, 2), 15);
        check.badState(x, "no seventeenth again", () -> x.addRay(2, 2));
    }

    /** "If several exceptions of a method apply, the one that is listed first is thrown." */
    private static void addRayRefusesTheRowFirst() {
        SlownessImager x = withRays(16);
        int[] rows = {-1, 4, MIN, MAX};
        for (int row : rows) {
            check.badIndex(x, "source " + row, () -> x.addRay(row, 0));
            check.badIndex(x, "receiver " + row, () -> x.addRay(0, row));
        }
    }

    /** "an observed time (0 to 10^11) or none, and is used or not (it is used at first)" */
    private static void addedRayIsUsedWithoutATime() {
        SlownessImager x = withRays(16);
        for (int ray = 0; ray < 16; ray++) {
            check.that("used", x.ray(ray, 2), 1);
            check.that("no time", x.time(ray, 1), -1);
            check.that("not active", x.ray(ray, 3), 0);
        }
        check.that("active rays", x.section(3), 0);
    }

    // ---- promise 8: setUsed

    /** "ray: number of a ray" */
    private static void setUsedTakesTheRaysThatThereAre() {
        SlownessImager x = withRays(3);
        check.badIndexes(x, "setUsed", 0, 2, ray -> x.setUsed(ray, false));
        check.that("the first ray", x.setUsed(0, false), 0);
        check.that("the last ray", x.setUsed(2, false), 0);
        check.that("the first one is not used", x.ray(0, 2), 0);
        check.that("the second one is", x.ray(1, 2), 1);
        check.that("the last one is not", x.ray(2, 2), 0);
        SlownessImager y = withRays(16);
        check.badIndexes(y, "setUsed of 16", 0, 15, ray -> y.setUsed(ray, true));
    }

    /** "A ray is active if it is used and has an observed time.": 0 is one. */
    private static void setUsedAnswersNoneToSixteenActiveRays() {
        SlownessImager x = withRays(16);
        check.that("without times", x.setUsed(15, true), 0);
        for (int ray = 0; ray < 16; ray++) {
            x.setTime(ray, 0);
        }
        check.that("all", x.setUsed(15, true), 16);
        check.that("all but the last", x.setUsed(15, false), 15);
        check.that("once more", x.setUsed(15, false), 15);
        check.that("all but two", x.setUsed(0, false), 14);
        x.setTime(15, -1);
        check.that("used, but without a time", x.setUsed(15, true), 14);
        for (int ray = 1; ray < 14; ray++) {
            x.setUsed(ray, false);
        }
        check.that("none", x.setUsed(14, false), 0);
    }

    // ---- promise 9: setTime

    /** "time: 0 to 100000000000, or NONE for none" */
    private static void setTimeTakesNoneTo100000000000() {
        SlownessImager x = withRays(1);
        long[] bad = {-2, -3, Long.MIN_VALUE, Long.MAX_VALUE, 100000000001L, MIN, -4294967296L, -4294967297L,
            Long.MIN_VALUE + 5, 1L << 40};
        for (long time : bad) {
            check.badArgument(x, "time " + time, () -> x.setTime(0, time));
        }
        check.that("0", x.setTime(0, 0), -1);
        check.that("100000000000", x.setTime(0, Check.MOST_TIME), 0);
        check.that("the greatest one is there", x.time(0, 1), Check.MOST_TIME);
        check.that("1", x.setTime(0, 1), Check.MOST_TIME);
        check.that("NONE", x.setTime(0, SlownessImager.NONE), 1);
        check.that("none is there", x.time(0, 1), -1);
    }

    /** "Returns the previous observed time, or NONE.": times are wider than an int. */
    private static void setTimeKeepsAllBits() {
        SlownessImager x = withRays(1);
        long[] times = {2147483647L, 2147483648L, 4294967294L, 4294967295L, 4294967296L, 99999999999L};
        long previous = -1;
        for (long time : times) {
            check.that("the one before " + time, x.setTime(0, time), previous);
            check.that("time", x.time(0, 1), time);
            check.that("active", x.ray(0, 3), 1);
            check.that("residual", x.residual(0), time - 6000000);
            previous = time;
        }
    }

    /** "ray: number of a ray", looked at before the time. */
    private static void setTimeTakesTheRaysThatThereAre() {
        SlownessImager x = withRays(16);
        check.badIndexes(x, "setTime", 0, 15, ray -> x.setTime(ray, 5));
        check.badIndexes(x, "setTime of a bad time", 0, 15, ray -> x.setTime(ray, -2));
        check.badIndexes(x, "setTime of none", 0, 15, ray -> x.setTime(ray, -1));
        check.that("the last ray", x.setTime(15, 5), -1);
        check.that("the first ray", x.setTime(0, 6), -1);
        check.that("the last one has it", x.time(15, 1), 5);
        check.that("the second one has not", x.time(1, 1), -1);
    }

    /** "Sets the observed time of a ray.": also of one that is not used, which stays so. */
    private static void setTimeOfAnUnusedRay() {
        SlownessImager x = withRays(2);
        x.setUsed(1, false);
        check.that("setTime", x.setTime(1, 9), -1);
        check.that("time", x.time(1, 1), 9);
        check.that("not active", x.section(3), 0);
        check.that("active then", x.setUsed(1, true), 1);
    }

    // ---- promise 10: observe

    /** "width: 0 to 1000" */
    private static void observeTakesWidthsUpTo1000() {
        SlownessImager x = withRays(1);
        check.badArguments(x, "width", 0, 1000, width -> x.observe(width, 0));
        check.that("width 0", x.observe(0, 999999), 1);
        check.that("no noise", x.time(0, 1), 6000000);
        check.that("width 1000", x.observe(1000, 999999), 1);
        check.that("noise", x.time(0, 1), 6000000 + noise(1000, next(999999)));
    }

    /** "seed: 0 to 999999" */
    private static void observeTakesSeedsUpTo999999() {
        SlownessImager x = withRays(2);
        check.badArguments(x, "seed", 0, 999999, seed -> x.observe(3, seed));
        int[] seeds = {0, 1, 999998, 999999};
        for (int seed : seeds) {
            check.that("seed " + seed, x.observe(1000, seed), 2);
            check.that("ray 0", x.time(0, 1), 6000000 + noise(1000, next(seed)));
            check.that("ray 1", x.time(1, 1), 6000000 + noise(1000, next(next(seed))));
        }
    }

    /** "Returns the number of rays.", none and sixteen too; none leave nothing to change. */
    private static void observeWithoutRays() {
        SlownessImager x = new SlownessImager();
        check.undoable(x, "without rays", 0, () -> x.observe(1000, 999999));
        SlownessImager y = withRays(16);
        check.that("sixteen", y.observe(0, 0), 16);
        check.that("all active", y.section(3), 16);
    }

    /** "t becomes (1103515245 * t + 12345) modulo 2147483648": it wraps around from ray to ray. */
    private static void observeWrapsTheNumberAround() {
        SlownessImager x = withRays(16);
        x.observe(999, 999999);
        long t = 999999;
        int wrapped = 0;
        for (int ray = 0; ray < 16; ray++) {
            wrapped += t > 2 && next(t) < t ? 1 : 0;
            t = next(t);
            check.that("ray " + ray, x.time(ray, 1), 6000000 + noise(999, t));
        }
        check.that("it did wrap around", wrapped > 3 ? 1 : 0, 1);
    }

    /** ".. plus noise, but at least 0": a time of 2000 with a noise of -3000 to 3000. */
    private static void observeGivesAtLeastZero() {
        int[] seen = new int[7];
        for (int seed = 0; seed < 60; seed++) {
            SlownessImager x = sized(2, 2);
            x.slope(true, 1, 0, 0);
            x.addRay(0, 0);
            x.observe(3, seed);
            long noise = noise(3, next(seed));
            seen[(int) (noise / 1000) + 3] = 1;
            check.that("noise " + noise, x.time(0, 1), noise <= -2000 ? 0 : 2000 + noise);
            check.that("0 is a time too", x.ray(0, 3), 1);
        }
        check.that("every noise", java.util.Arrays.stream(seen).sum(), 7);
    }

    /** "Gives each ray, whether it is used or not, an observed time": also one that had another. */
    private static void observeGivesTimesToUnusedRays() {
        SlownessImager x = withRays(3);
        x.setUsed(0, false);
        x.setUsed(2, false);
        x.setTime(2, Check.MOST_TIME);
        check.that("observe", x.observe(0, 5), 3);
        check.that("ray 0", x.time(0, 1), 6000000);
        check.that("ray 2", x.time(2, 1), 6000000);
        check.that("only one is active", x.section(3), 1);
    }

    /** "the number s" is apart from the number t of the noise. */
    private static void observeLeavesTheNumberAlone() {
        SlownessImager x = withRays(2);
        SlownessImager y = withRays(2);
        x.setOrder(1000, 3, 77);
        y.setOrder(1000, 3, 77);
        x.observe(0, 999999);
        y.observe(0, 0);
        check.that("digest", x.digest(), y.digest());
    }

    private static long next(long t) {
        java.math.BigInteger product = java.math.BigInteger.valueOf(1103515245).multiply(java.math.BigInteger.valueOf(t));
        return product.add(java.math.BigInteger.valueOf(12345)).mod(java.math.BigInteger.valueOf(2147483648L)).longValue();
    }

    private static long noise(int width, long t) {
        return 1000 * ((t >> 16) % (2 * width + 1) - width);
    }

    // ---- neighbours, lengths and ways

    /** "differ by at most 1 in their columns and by at most 1 in their rows": rows do not join at their ends. */
    private static void rowsDoNotJoinAtTheirEnds() {
        SlownessImager x = sized(4, 2);
        x.slope(false, 1, 0, 0);
        check.that("from 3 to 4", x.least(3, 4, false), 1414 * 2 + 2 * 2000);
        check.that("from 0 to 7", x.least(0, 7, false), 1414 * 2 + 2 * 2000);
        check.that("from 3 to 0", x.least(3, 0, false), 3 * 2000);
        SlownessImager y = sized(2, 4);
        y.slope(false, 1, 0, 0);
        check.that("from 0 to 6", y.least(0, 6, false), 3 * 2000);
        check.that("from 1 to 2", y.least(1, 2, false), 1414 * 2);
        check.that("from 1 to 4", y.least(1, 4, false), 1414 * 2 + 2000);
    }

    /** "A move between neighbours has the length 1000 .., otherwise 1414.", in all eight directions. */
    private static void movesInEightDirections() {
        SlownessImager x = sized(3, 3);
        x.slope(false, 1, 0, 0);
        int[] dues = {2828, 2000, 2828, 2000, 0, 2000, 2828, 2000, 2828};
        for (int cell = 0; cell < 9; cell++) {
            check.that("from 4 to " + cell, x.least(4, cell, false), dues[cell]);
            check.that("back", x.least(cell, 4, false), dues[cell]);
        }
    }

    /** "from the cell of the source row in column 0 to the cell of the receiver row in column W - 1" */
    private static void waysBetweenAllCorners() {
        int[][] sizes = {{2, 2}, {2, 8}, {8, 2}, {8, 8}};
        for (int[] size : sizes) {
            for (int corner = 0; corner < 4; corner++) {
                SlownessImager x = sized(size[0], size[1]);
                int source = corner % 2 * (size[1] - 1);
                int receiver = corner / 2 * (size[1] - 1);
                x.addRay(source, receiver);
                check.that("start", x.wayCell(0, 0), size[0] * source);
                check.that("end", x.wayCell(0, x.ray(0, 4) - 1), size[0] * receiver + size[0] - 1);
                check.that("time", x.time(0, 0), x.least(size[0] * source, size[0] * (receiver + 1) - 1, false));
            }
        }
    }

    /**
     * "the neighbour with the lowest number that is on a way of least time to the last one": the
     * ways over 1, through 4 and under 7 are as near as each other.
     */
    private static void lowestOfEqualNeighbours() {
        SlownessImager x = sized(3, 3);
        x.setCell(4, 1828);
        x.addRay(1, 1);
        check.that("time", x.time(0, 0), 2 * 1414 * 2000);
        check.same("over", Check.way(x, 0), Check.list(3, 1, 5));
        x.setCell(1, 1001);
        check.same("through", Check.way(x, 0), Check.list(3, 4, 5));
        x.setCell(4, 1829);
        check.same("under", Check.way(x, 0), Check.list(3, 7, 5));
        x.setCell(7, 1001);
        check.same("through again", Check.way(x, 0), Check.list(3, 4, 5));
        check.that("time then", x.time(0, 0), 2 * 1414 * 2000 + 2000);
        x.setCell(1, 1000);
        check.same("over again", Check.way(x, 0), Check.list(3, 1, 5));
    }
}
