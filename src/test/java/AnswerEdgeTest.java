/**
 * The boundary cases of promises 16 to 25, the questions: a test for each sentence that names one,
 * with the sentence in front of it.
 */
final class AnswerEdgeTest {
    private static final Check check = new Check("AnswerEdgeTest");
    private static final int MIN = Integer.MIN_VALUE;
    private static final int MAX = Integer.MAX_VALUE;

    public static void main(String[] args) {
        check.runAll(AnswerEdgeTest.class);
        check.end();
    }

    /** Sixteen rays, each from row 0 to row 3, the last one from row 3 to row 0. */
    private static SlownessImager full() {
        SlownessImager x = new SlownessImager();
        for (int ray = 0; ray < 15; ray++) {
            x.addRay(0, 3);
        }
        x.addRay(3, 0);
        return x;
    }

    // ---- promise 16: ray

    /** "ray: number of a ray" */
    private static void rayTakesTheRaysThatThereAre() {
        SlownessImager x = full();
        for (int i = 0; i <= 4; i++) {
            int what = i;
            check.badIndexes(x, "what " + what, 0, 15, ray -> x.ray(ray, what));
        }
        check.that("the last source", x.ray(15, 0), 3);
        check.that("the last receiver", x.ray(15, 1), 0);
        check.that("the first source", x.ray(0, 0), 0);
        check.that("the first receiver", x.ray(0, 1), 3);
        SlownessImager y = new SlownessImager();
        y.addRay(0, 0);
        check.badIndexes(y, "of one", 0, 0, ray -> y.ray(ray, 0));
    }

    /** "what: 0 .. 4": and if the ray is not there either, that is what is told. */
    private static void rayTakesZeroToFour() {
        SlownessImager x = full();
        check.badArguments(x, "what", 0, 4, what -> x.ray(15, what));
        check.badIndexes(x, "both", 0, 15, ray -> x.ray(ray, 5));
        check.badIndexes(x, "both", 0, 15, ray -> x.ray(ray, -1));
    }

    /** "4 number of cells of its way": two are the fewest; walls make it longer. */
    private static void rayCountsTheCellsOfItsWay() {
        SlownessImager x = new SlownessImager();
        x.begin(2, 2);
        x.addRay(0, 0);
        x.addRay(0, 1);
        check.that("straight", x.ray(0, 4), 2);
        check.that("over the corner", x.ray(1, 4), 2);
        SlownessImager y = winding();
        check.that("winding", y.ray(0, 4), 29);
        check.that("its last cell", y.wayCell(0, 28), 7);
        check.that("none behind it", y.wayCell(0, 29), -1);
    }

    /** Walls of slow cells, open at the bottom and at the top by turns. */
    private static SlownessImager winding() {
        SlownessImager x = new SlownessImager();
        x.begin(8, 8);
        x.slope(false, 1, 0, 0);
        for (int row = 0; row < 7; row++) {
            x.setCell(8 * row + 1, 100000);
            x.setCell(8 * (row + 1) + 3, 100000);
            x.setCell(8 * row + 5, 100000);
        }
        x.addRay(0, 0);
        return x;
    }

    /** "2 1 if it is used or 0 if not, 3 1 if it is active or 0 if not": with a time of 0, and without. */
    private static void rayIsActiveWithATimeOfZero() {
        SlownessImager x = full();
        check.that("used", x.ray(15, 2), 1);
        check.that("without a time", x.ray(15, 3), 0);
        x.setTime(15, 0);
        check.that("with a time of 0", x.ray(15, 3), 1);
        x.setTime(15, Check.MOST_TIME);
        check.that("with the greatest time", x.ray(15, 3), 1);
        x.setUsed(15, false);
        check.that("not used", x.ray(15, 2), 0);
        check.that("not active", x.ray(15, 3), 0);
        x.setUsed(15, true);
        x.setTime(15, -1);
        check.that("used again", x.ray(15, 2), 1);
        check.that("without a time again", x.ray(15, 3), 0);
    }

    // ---- promise 17: time

    /** "ray: number of a ray", looked at before what is asked. */
    private static void timeTakesTheRaysThatThereAre() {
        SlownessImager x = full();
        check.badIndexes(x, "way", 0, 15, ray -> x.time(ray, 0));
        check.badIndexes(x, "observed", 0, 15, ray -> x.time(ray, 1));
        check.badIndexes(x, "both", 0, 15, ray -> x.time(ray, 2));
        check.that("the last ray", x.time(15, 0), 8484000);
    }

    /** "what: 0 time of its way, 1 observed time" */
    private static void timeTakesZeroAndOne() {
        SlownessImager x = full();
        check.badArguments(x, "what", 0, 1, what -> x.time(0, what));
    }

    /** "(NONE without one)", and 0 and 100000000000 with them. */
    private static void timeIsNoneWithoutOne() {
        SlownessImager x = full();
        check.that("at first", x.time(15, 1), SlownessImager.NONE);
        x.setTime(15, 0);
        check.that("0", x.time(15, 1), 0);
        x.setTime(15, Check.MOST_TIME);
        check.that("100000000000", x.time(15, 1), Check.MOST_TIME);
        check.that("the ray before", x.time(14, 1), SlownessImager.NONE);
        x.setTime(15, -1);
        check.that("none again", x.time(15, 1), SlownessImager.NONE);
    }

    /** "a slowness from 1 to 100000": the least and the greatest time of a way. */
    private static void timeOfTheFastestAndTheSlowestSection() {
        SlownessImager x = new SlownessImager();
        x.begin(2, 2);
        x.slope(false, 1, 0, 0);
        x.addRay(0, 0);
        check.that("the least", x.time(0, 0), 2000);
        SlownessImager y = new SlownessImager();
        y.begin(8, 8);
        y.slope(false, 100000, 0, 0);
        y.addRay(0, 7);
        check.that("the greatest", y.time(0, 0), 7L * 1414 * 200000);
        check.that("the greatest, back", y.least(63, 0, false), 7L * 1414 * 200000);
    }

    // ---- promise 18: residual

    /** "ray: number of a ray", looked at before its time. */
    private static void residualTakesTheRaysThatThereAre() {
        SlownessImager x = full();
        check.badIndexes(x, "without times", 0, 15, ray -> x.residual(ray));
        x.setTime(15, 8484000);
        check.badIndexes(x, "with a time", 0, 15, ray -> x.residual(ray));
        check.that("the last ray", x.residual(15), 0);
    }

    /** "Throws IllegalStateException if the ray has no observed time" */
    private static void residualNeedsAnObservedTime() {
        SlownessImager x = full();
        check.badState(x, "at first", () -> x.residual(15));
        x.setTime(15, 0);
        check.that("of 0", x.residual(15), -8484000);
        check.badState(x, "the ray before", () -> x.residual(14));
        x.setTime(15, -1);
        check.badState(x, "none again", () -> x.residual(15));
        x.observe(0, 0);
        check.that("observed", x.residual(14), 0);
    }

    /** "the observed time minus the time of its way": the greatest and the least one, used or not. */
    private static void residualsAreWiderThanAnInt() {
        SlownessImager x = new SlownessImager();
        x.begin(8, 8);
        x.addRay(0, 7);
        x.setUsed(0, false);
        x.setTime(0, Check.MOST_TIME);
        x.slope(false, 1, 0, 0);
        check.that("the greatest", x.residual(0), 100000000000L - 19796);
        x.setTime(0, 0);
        x.slope(false, 100000, 0, 0);
        check.that("the least", x.residual(0), -1979600000L);
        x.setTime(0, 1979600000);
        check.that("none", x.residual(0), 0);
        x.setTime(0, 1979599999);
        check.that("one less", x.residual(0), -1);
    }

    // ---- promise 19: wayCell

    /** "ray: number of a ray", looked at before the index; no NONE for a ray that is not there. */
    private static void wayCellTakesTheRaysThatThereAre() {
        SlownessImager x = full();
        check.badIndexes(x, "wayCell", 0, 15, ray -> x.wayCell(ray, 0));
        check.badIndexes(x, "a negative index", 0, 15, ray -> x.wayCell(ray, -1));
        check.badIndexes(x, "a great index", 0, 15, ray -> x.wayCell(ray, 1000));
        check.that("the last ray", x.wayCell(15, 0), 12);
    }

    /** "index: 0 or more" */
    private static void wayCellTakesNoNegativeIndex() {
        SlownessImager x = full();
        int[] bad = {-1, -2, -4, -64, -65536, MIN, MIN + 1};
        for (int index : bad) {
            check.badArgument(x, "index " + index, () -> x.wayCell(0, index));
        }
    }

    /** "NONE if the way has not so many cells." */
    private static void wayCellIsNoneBehindTheLastCell() {
        SlownessImager x = full();
        check.that("the source", x.wayCell(15, 0), 12);
        check.that("the receiver", x.wayCell(15, 3), 3);
        int[] beyond = {4, 5, 15, 16, 63, 64, 65, 255, 256, 65536, MAX};
        for (int index : beyond) {
            check.harmless(x, "index " + index, SlownessImager.NONE, () -> x.wayCell(15, index));
        }
        SlownessImager y = winding();
        y.begin(2, 2);
        y.addRay(0, 0);
        check.that("the last cell after a longer way", y.wayCell(0, 1), 1);
        check.that("none after a longer way", y.wayCell(0, 2), -1);
    }

    // ---- promise 20: length

    /** "Throws IndexOutOfBoundsException if there is no such ray or cell" */
    private static void lengthTakesRaysAndCellsThatThereAre() {
        SlownessImager x = full();
        check.badIndexes(x, "ray", 0, 15, ray -> x.length(ray, 0));
        check.badIndexes(x, "cell", 0, 15, cell -> x.length(0, cell));
        check.badIndexes(x, "both", 0, 15, number -> x.length(number, number));
        check.that("the last ones", x.length(15, 15), 0);
        check.that("the first ones", x.length(0, 0), 1414);
        SlownessImager y = new SlownessImager();
        y.begin(8, 8);
        y.addRay(7, 7);
        check.badIndexes(y, "cell of 64", 0, 63, cell -> y.length(0, cell));
        check.that("the last cell", y.length(0, 63), 1000);
        check.that("the last but one", y.length(0, 62), 2000);
    }

    /** "Returns the length; 0 if the way does not contain the cell.": its ends have one move, the others two. */
    private static void lengthIsZeroOffTheWay() {
        SlownessImager x = new SlownessImager();
        x.begin(3, 3);
        x.addRay(0, 1);
        long[] dues = {1000, 2414, 0, 0, 0, 1414, 0, 0, 0};
        check.same("way", Check.way(x, 0), Check.list(0, 1, 5));
        for (int i = 0; i < 9; i++) {
            int cell = i;
            check.harmless(x, "cell " + cell, dues[cell], () -> x.length(0, cell));
        }
        x.setUsed(0, false);
        check.that("of a ray that is not used", x.length(0, 1), 2414);
        x.setCell(1, 100000);
        check.that("of a cell that it goes round", x.length(0, 1), 0);
        check.that("of the one that it goes through", x.length(0, 4), 2414);
    }

    // ---- promise 21: least

    /** "Throws IndexOutOfBoundsException if there is no such cell": neither for from nor for to. */
    private static void leastTakesTheCellsThatThereAre() {
        SlownessImager x = new SlownessImager();
        x.begin(2, 8);
        check.badIndexes(x, "from", 0, 15, from -> x.least(from, 0, false));
        check.badIndexes(x, "to", 0, 15, to -> x.least(0, to, true));
        check.badIndexes(x, "both", 0, 15, cell -> x.least(cell, cell, false));
        check.that("the last from", x.least(15, 1, false), 7 * 2000000);
        check.that("the last to", x.least(1, 15, true), 7 * 2000000);
        SlownessImager y = new SlownessImager();
        y.begin(8, 8);
        check.badIndexes(y, "from of 64", 0, 63, from -> y.least(from, 63, true));
        check.badIndexes(y, "to of 64", 0, 63, to -> y.least(63, to, false));
    }

    /** "Returns the time; 0 if both are the same." */
    private static void leastIsZeroForTheSameCell() {
        SlownessImager x = new SlownessImager();
        x.begin(8, 8);
        x.slope(false, 100000, 0, 0);
        for (int i = 0; i < 64; i += 9) {
            int cell = i;
            check.harmless(x, "cell " + cell, 0, () -> x.least(cell, cell, false));
            check.that("true, cell " + cell, x.least(cell, cell, true), 0);
        }
    }

    /** "the least time of a way between any two cells": least values of 1, greatest of 100000. */
    private static void leastOfTheFastestAndTheSlowest() {
        SlownessImager x = new SlownessImager();
        x.begin(2, 2);
        x.slope(false, 1, 0, 0);
        x.slope(true, 100000, 0, 0);
        check.that("fast and straight", x.least(0, 2, false), 2000);
        check.that("fast over the corner", x.least(1, 2, false), 2828);
        check.that("slow and straight", x.least(2, 3, true), 200000000);
        check.that("slow over the corner", x.least(3, 0, true), 282800000);
        x.setCell(3, 100000);
        check.that("round a slow cell", x.least(1, 2, false), 2828);
        check.that("into a slow cell", x.least(0, 3, false), 2000 + 100001000);
    }

    // ---- promise 22: cell

    /** "cell: 0 to W * H - 1", looked at before what is asked. */
    private static void cellTakesTheCellsThatThereAre() {
        for (int i = 0; i <= 3; i++) {
            int what = i;
            SlownessImager x = new SlownessImager();
            x.begin(8, 8);
            check.badIndexes(x, "of 64, what " + what, 0, 63, cell -> x.cell(cell, what));
            x.begin(2, 2);
            check.badIndexes(x, "of 4, what " + what, 0, 3, cell -> x.cell(cell, what));
            check.badIndexes(x, "both", 0, 3, cell -> x.cell(cell, 4));
            check.badIndexes(x, "both", 0, 3, cell -> x.cell(cell, -1));
            check.that("the last cell", x.cell(3, what), what < 2 ? 1000 : 0);
        }
    }

    /** "what: 0 .. 3" */
    private static void cellTakesZeroToThree() {
        SlownessImager x = new SlownessImager();
        check.badArguments(x, "what", 0, 3, what -> x.cell(15, what));
    }

    /** "The coverage of a cell is the number of active rays whose ways contain it.": none to sixteen. */
    private static void coverageIsNoneToSixteen() {
        SlownessImager x = full();
        check.that("no active rays", x.cell(0, 2), 0);
        check.that("no active rays, lengths", x.cell(0, 3), 0);
        x.observe(0, 0);
        check.that("fifteen", x.cell(0, 2), 15);
        check.that("fifteen, lengths", x.cell(0, 3), 15 * 1414);
        check.that("inside", x.cell(5, 3), 15 * 2828);
        check.that("one", x.cell(3, 2), 1);
        check.that("none", x.cell(1, 2), 0);
        check.that("none, lengths", x.cell(1, 3), 0);
        x.begin(2, 2);
        for (int ray = 0; ray < 16; ray++) {
            x.addRay(1, ray % 2);
        }
        x.observe(0, 0);
        check.that("sixteen", x.cell(2, 2), 16);
        check.that("sixteen, lengths", x.cell(2, 3), 8 * 1414 + 8 * 1000);
        x.setUsed(15, false);
        x.setTime(14, -1);
        check.that("fourteen", x.cell(2, 2), 14);
        check.that("fourteen, lengths", x.cell(2, 3), 7 * 1414 + 7 * 1000);
    }

    /** "0 slowness, 1 true slowness": the least and the greatest. */
    private static void cellTellsTheLeastAndTheGreatest() {
        SlownessImager x = new SlownessImager();
        x.setCell(15, 100000);
        x.setTrue(15, 1);
        check.that("slowness", x.cell(15, 0), 100000);
        check.that("true slowness", x.cell(15, 1), 1);
        x.setCell(15, 1);
        x.setTrue(15, 100000);
        check.that("slowness", x.cell(15, 0), 1);
        check.that("true slowness", x.cell(15, 1), 100000);
    }

    // ---- promise 23: section

    /** "what: 0 W .. 8 order" */
    private static void sectionTakesZeroToEight() {
        SlownessImager x = full();
        check.badArguments(x, "what", 0, 8, what -> x.section(what));
    }

    /** "2 number of rays, 3 active rays": none, one, fifteen and sixteen. */
    private static void sectionCountsRays() {
        SlownessImager x = new SlownessImager();
        for (int ray = 0; ray <= 16; ray++) {
            check.that("rays", x.section(2), ray);
            check.that("active rays", x.section(3), ray);
            if (ray < 16) {
                x.addRay(0, 0);
                check.that("not active yet", x.section(3), ray);
                x.setTime(ray, 0);
            }
        }
        x.setUsed(15, false);
        check.that("rays with one that is not used", x.section(2), 16);
        check.that("active rays but that one", x.section(3), 15);
    }

    /** "4 cells with the coverage 0": all of them without active rays, and none in the end. */
    private static void sectionCountsUncoveredCells() {
        SlownessImager x = new SlownessImager();
        x.begin(8, 8);
        check.that("all of 64", x.section(4), 64);
        for (int ray = 0; ray < 8; ray++) {
            x.addRay(ray, ray);
            check.that("all that no active ray crosses", x.section(4), 64 - 8 * ray);
            x.setTime(ray, 0);
        }
        check.that("none", x.section(4), 0);
        x.setUsed(7, false);
        check.that("a row", x.section(4), 8);
        x.setTime(0, -1);
        check.that("two rows", x.section(4), 16);
    }

    /** "0 W, 1 H, .. 5 lower bound, 6 upper bound, 7 relaxation, 8 order": the least and the greatest. */
    private static void sectionTellsTheLeastAndTheGreatest() {
        SlownessImager x = new SlownessImager();
        x.begin(2, 8);
        x.setBounds(1, 1);
        x.setOrder(1, 3, 0);
        long[] due = {2, 8, 0, 0, 16, 1, 1, 1, 3};
        for (int what = 0; what <= 8; what++) {
            check.that("section(" + what + ")", x.section(what), due[what]);
        }
        x.begin(8, 2);
        x.setBounds(100000, 100000);
        x.setOrder(2000, 0, 0);
        long[] then = {8, 2, 0, 0, 16, 100000, 100000, 2000, 0};
        for (int what = 0; what <= 8; what++) {
            check.that("section(" + what + ") then", x.section(what), then[what]);
        }
    }

    // ---- promise 24: fit

    /** "what: 0 .. 4" */
    private static void fitTakesZeroToFour() {
        SlownessImager x = full();
        check.badArguments(x, "what", 0, 4, what -> x.fit(what));
    }

    /** "(0 without any)", "NONE without active rays": without rays, and with rays that are not active. */
    private static void fitWithoutActiveRays() {
        SlownessImager x = new SlownessImager();
        SlownessImager y = full();
        SlownessImager z = full();
        z.setTime(3, 7);
        z.setUsed(3, false);
        SlownessImager[] all = {x, y, z};
        for (SlownessImager each : all) {
            check.that("sum", each.fit(0), 0);
            check.that("greatest", each.fit(1), 0);
            check.that("its ray", each.fit(2), SlownessImager.NONE);
        }
        z.setUsed(3, true);
        check.that("one active ray", z.fit(2), 3);
        check.that("its residual", z.fit(1), 8484000 - 7);
    }

    /** "the ray with the greatest one of them (of several the lowest ..)": also if all of them are 0. */
    private static void fitTellsTheLowestOfSeveralRays() {
        SlownessImager x = full();
        x.observe(0, 0);
        check.that("all are 0: the greatest", x.fit(1), 0);
        check.that("all are 0: the ray", x.fit(2), 0);
        x.setUsed(0, false);
        check.that("all but the first", x.fit(2), 1);
        x.setTime(15, 8484000 + 5);
        check.that("the last one", x.fit(2), 15);
        x.setTime(14, 8484000 - 5);
        check.that("the last but one", x.fit(2), 14);
        x.setTime(7, 8484000 + 5);
        check.that("three of them", x.fit(2), 7);
        x.setTime(7, 8484000 + 4);
        check.that("a smaller one", x.fit(2), 14);
        x.setTime(15, 8484000 + 6);
        check.that("a greater one", x.fit(2), 15);
        check.that("the greatest", x.fit(1), 6);
        check.that("the sum", x.fit(0), 4 + 5 + 6);
    }

    /** "the sum of the absolute values of the residuals": sixteen of the greatest ones. */
    private static void fitOfTheGreatestResiduals() {
        SlownessImager x = new SlownessImager();
        x.begin(2, 2);
        x.slope(false, 1, 0, 0);
        for (int ray = 0; ray < 16; ray++) {
            x.addRay(0, 0);
            x.setTime(ray, Check.MOST_TIME);
        }
        check.that("sum", x.fit(0), 16 * (100000000000L - 2000));
        check.that("greatest", x.fit(1), 100000000000L - 2000);
        check.that("its ray", x.fit(2), 0);
        x.begin(8, 8);
        x.slope(false, 100000, 0, 0);
        for (int ray = 0; ray < 16; ray++) {
            x.addRay(0, 7);
            x.setTime(ray, 0);
        }
        check.that("sum of the least ones", x.fit(0), 16 * 1979600000L);
        check.that("the least one", x.fit(1), 1979600000L);
    }

    /** "3 the sum of the absolute values of (slowness - true slowness) over all cells", none and most. */
    private static void fitOfDifferences() {
        SlownessImager x = new SlownessImager();
        x.begin(8, 8);
        check.that("none", x.fit(3), 0);
        x.slope(false, 100000, 0, 0);
        x.slope(true, 1, 0, 0);
        check.that("most", x.fit(3), 64 * 99999);
        x.slope(true, 100000, 0, 0);
        x.slope(false, 1, 0, 0);
        check.that("most, the other way round", x.fit(3), 64 * 99999);
        x.setTrue(63, 1);
        check.that("but the last cell", x.fit(3), 63 * 99999);
        x.setCell(0, 100000);
        check.that("and the first one", x.fit(3), 62 * 99999);
        SlownessImager y = new SlownessImager();
        y.setCell(0, 1003);
        y.setTrue(1, 1003);
        check.that("both ways", y.fit(3), 6);
    }

    /** "4 the sum of all slownesses": the least and the greatest. */
    private static void fitOfSums() {
        SlownessImager x = new SlownessImager();
        x.begin(8, 8);
        x.slope(false, 100000, 0, 0);
        check.that("the greatest", x.fit(4), 6400000);
        x.begin(2, 2);
        x.slope(false, 1, 0, 0);
        x.slope(true, 100000, 0, 0);
        check.that("the least", x.fit(4), 4);
        x.setCell(3, 100000);
        check.that("with the last cell", x.fit(4), 100003);
    }

    // ---- promise 25: whatIf

    /** "Throws IndexOutOfBoundsException if there is no such ray or cell", before the slowness. */
    private static void whatIfTakesRaysAndCellsThatThereAre() {
        SlownessImager x = full();
        check.badIndexes(x, "ray", 0, 15, ray -> x.whatIf(ray, 0, 5));
        check.badIndexes(x, "cell", 0, 15, cell -> x.whatIf(0, cell, 5));
        check.badIndexes(x, "ray and slowness", 0, 15, ray -> x.whatIf(ray, 0, 0));
        check.badIndexes(x, "cell and slowness", 0, 15, cell -> x.whatIf(0, cell, 100001));
        check.badIndexes(x, "all of them", 0, 15, number -> x.whatIf(number, number, -1));
        check.that("the last ones", x.whatIf(15, 15, 5), 0);
    }

    /** "slowness: 1 to 100000" */
    private static void whatIfTakesOneTo100000() {
        SlownessImager x = new SlownessImager();
        x.begin(2, 2);
        x.addRay(0, 0);
        check.badArguments(x, "slowness", 1, 100000, slowness -> x.whatIf(0, 0, slowness));
        check.harmless(x, "1", -999000, () -> x.whatIf(0, 0, 1));
        check.harmless(x, "100000", 99000000, () -> x.whatIf(0, 0, 100000));
        check.harmless(x, "the same", 0, () -> x.whatIf(0, 0, 1000));
    }

    /** "Nothing changes.": in the last cell of 64 either, and asked again the answer is the same. */
    private static void whatIfChangesNothing() {
        SlownessImager x = new SlownessImager();
        x.begin(8, 8);
        x.addRay(7, 7);
        x.addRay(0, 7);
        check.harmless(x, "the last cell", 99000000, () -> x.whatIf(0, 63, 100000));
        check.that("its slowness", x.cell(63, 0), 1000);
        check.that("the time", x.time(0, 0), 14000000);
        check.harmless(x, "the last cell, slower", 99000000, () -> x.whatIf(0, 63, 100000));
        check.harmless(x, "the last cell, faster", -999000, () -> x.whatIf(0, 63, 1));
        check.harmless(x, "another cell", 1656000, () -> x.whatIf(0, 60, 100000));
        check.same("the way", Check.way(x, 0), Check.list(56, 57, 58, 59, 60, 61, 62, 63));
        check.harmless(x, "a cell off the way", 0, () -> x.whatIf(0, 0, 1));
        check.harmless(x, "the other ray", 1414000, () -> x.whatIf(1, 0, 2000));
    }

    /** The first cell, the last one, and one that a way would then lead over. */
    private static void whatIfFindsTheWayThen() {
        SlownessImager x = new SlownessImager();
        x.begin(3, 3);
        x.addRay(1, 1);
        check.that("round a slow cell", x.whatIf(0, 4, 100000), 2 * 2828000 - 4000000);
        check.that("over a fast cell", x.whatIf(0, 1, 1), 2 * 1414 * 1001 - 4000000);
        check.that("the source", x.whatIf(0, 3, 100000), 99000000);
        check.that("the receiver", x.whatIf(0, 5, 1), -999000);
        x.setTrue(1, 1);
        x.setTrue(4, 100000);
        check.that("not by the true ones", x.whatIf(0, 4, 1001), 2000);
    }

    // ---- all of them

    private interface Use {
        long on(SlownessImager x);
    }

    private static final Use[] QUESTIONS = {
        x -> x.ray(0, 3), x -> x.ray(0, 4), x -> x.time(0, 0), x -> x.time(0, 1), x -> x.residual(0),
        x -> x.wayCell(0, 1), x -> x.length(0, 6), x -> x.least(0, 15, false), x -> x.least(0, 15, true),
        x -> x.cell(6, 0), x -> x.cell(6, 1), x -> x.cell(6, 2), x -> x.cell(6, 3), x -> x.section(2),
        x -> x.section(3), x -> x.section(4), x -> x.fit(0), x -> x.fit(1), x -> x.fit(2), x -> x.fit(3),
        x -> x.fit(4), x -> x.whatIf(0, 9, 1), x -> x.digest()};

    private static final Use[] CHANGES = {
        x -> x.setCell(6, 90000), x -> x.setTrue(6, 90000), x -> x.slope(false, 3000, -900, 700),
        x -> x.slope(true, 3000, -900, 700), x -> x.addRay(1, 1), x -> x.setUsed(0, false),
        x -> x.setTime(0, 1), x -> x.observe(1000, 3), x -> x.correct(0), x -> x.sweep(3), x -> x.smooth(1),
        x -> x.fill(), x -> x.undo(), x -> x.run(), x -> x.begin(4, 4) + x.addRay(3, 3) + x.setTime(0, 7)};

    /** A ray that goes round a slow cell, over 0, 1, 6, 11 and 15; what was asked before a change must not answer after it. */
    private static SlownessImager changing() {
        SlownessImager x = new SlownessImager();
        x.addRay(0, 3);
        x.setTime(0, 9000000);
        x.setTrue(10, 5000);
        x.setCell(10, 5000);
        Check.type(x, "cell 4 1;cell 9 1;");
        return x;
    }

    /** "its way .. has the least time": that of the present slownesses, whatever was asked before. */
    private static void answersAreThoseOfThePresent() {
        for (int change = 0; change < CHANGES.length; change++) {
            for (int question = 0; question < QUESTIONS.length; question++) {
                SlownessImager x = changing();
                SlownessImager y = changing();
                for (Use each : QUESTIONS) {
                    each.on(x);
                }
                CHANGES[change].on(x);
                CHANGES[change].on(y);
                check.that("question " + question + " after change " + change,
                        QUESTIONS[question].on(x), QUESTIONS[question].on(y));
            }
        }
    }
}
