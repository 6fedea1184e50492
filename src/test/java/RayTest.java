/** Promises 16 to 21: rays, their times, ways and lengths, and least times. */
final class RayTest {
    private static final Check check = new Check("RayTest");

    public static void main(String[] args) {
        ray();
        time();
        residual();
        wayCell();
        lowestWays();
        length();
        least();
        check.end();
    }

    private static void ray() {
        SlownessImager x = new SlownessImager();
        x.addRay(2, 1);
        check.harmless(x, "ray(0, 0)", 2, () -> x.ray(0, 0));
        check.harmless(x, "ray(0, 1)", 1, () -> x.ray(0, 1));
        check.harmless(x, "ray(0, 2)", 1, () -> x.ray(0, 2));
        check.harmless(x, "ray(0, 3)", 0, () -> x.ray(0, 3));
        check.harmless(x, "ray(0, 4)", 4, () -> x.ray(0, 4));
        x.setTime(0, 9);
        check.that("ray(0, 3) with a time", x.ray(0, 3), 1);
        x.setUsed(0, false);
        check.that("ray(0, 2) not used", x.ray(0, 2), 0);
        check.that("ray(0, 3) not used", x.ray(0, 3), 0);
        check.badIndex(x, "ray(1, 0)", () -> x.ray(1, 0));
        check.badIndex(x, "ray(-1, 9)", () -> x.ray(-1, 9));
        check.badArgument(x, "ray(0, 5)", () -> x.ray(0, 5));
        check.badArgument(x, "ray(0, -1)", () -> x.ray(0, -1));
        x.begin(2, 8);
        x.addRay(0, 7);
        check.that("ray(0, 4) in two columns", x.ray(0, 4), 8);
    }

    private static void time() {
        SlownessImager x = new SlownessImager();
        x.addRay(0, 1);
        check.harmless(x, "time(0, 0)", 1000 * 2000 * 2 + 1414 * 2000, () -> x.time(0, 0));
        check.harmless(x, "time(0, 1)", -1, () -> x.time(0, 1));
        x.setTime(0, 100000000000L);
        check.that("time(0, 1) with a time", x.time(0, 1), 100000000000L);
        x.setTrue(0, 1);
        check.that("time(0, 0) by the slownesses", x.time(0, 0), 6828000);
        check.badIndex(x, "time(1, 0)", () -> x.time(1, 0));
        check.badIndex(x, "time(-1, 2)", () -> x.time(-1, 2));
        check.badArgument(x, "time(0, 2)", () -> x.time(0, 2));
        check.badArgument(x, "time(0, -1)", () -> x.time(0, -1));
        x.begin(8, 8);
        x.slope(false, 100000, 0, 0);
        x.addRay(0, 7);
        check.that("time(0, 0) of the slowest section", x.time(0, 0), 1979600000L);
    }

    private static void residual() {
        SlownessImager x = new SlownessImager();
        x.addRay(0, 0);
        check.badState(x, "residual(0) without a time", () -> x.residual(0));
        check.badIndex(x, "residual(1)", () -> x.residual(1));
        check.badIndex(x, "residual(-1)", () -> x.residual(-1));
        x.setTime(0, 0);
        check.harmless(x, "residual(0) of 0", -6000000, () -> x.residual(0));
        x.setTime(0, 100000000000L);
        x.setUsed(0, false);
        check.harmless(x, "residual(0), not used", 99994000000L, () -> x.residual(0));
    }

    private static void wayCell() {
        SlownessImager x = new SlownessImager();
        x.begin(5, 3);
        x.setCell(1, 5000);
        x.setCell(2, 5000);
        x.addRay(0, 0);
        long[] due = {0, 6, 7, 3, 4, -1};
        for (int i = 0; i < due.length; i++) {
            int index = i;
            check.harmless(x, "wayCell(0, " + i + ")", due[i], () -> x.wayCell(0, index));
        }
        check.that("wayCell(0, most)", x.wayCell(0, Integer.MAX_VALUE), -1);
        check.that("wayCell(0, 64)", x.wayCell(0, 64), -1);
        check.badArgument(x, "wayCell(0, -1)", () -> x.wayCell(0, -1));
        check.badIndex(x, "wayCell(1, 0)", () -> x.wayCell(1, 0));
        check.badIndex(x, "wayCell(-1, -1)", () -> x.wayCell(-1, -1));
        longestWay();
    }

    /** Walls of slow cells, open at the top and at the bottom by turns, make a way wind. */
    private static void longestWay() {
        SlownessImager x = new SlownessImager();
        x.begin(8, 8);
        x.slope(false, 1, 0, 0);
        for (int row = 0; row < 8; row++) {
            wall(x, row, 1, row != 7);
            wall(x, row, 3, row != 0);
            wall(x, row, 5, row != 7);
        }
        x.addRay(0, 0);
        long[] way = Check.way(x, 0);
        check.same("wayCell: a winding way", way, Check.list(0, 8, 16, 24, 32, 40, 48, 57, 50, 42, 34, 26,
                18, 10, 3, 12, 20, 28, 36, 44, 52, 61, 54, 46, 38, 30, 22, 14, 7));
        check.that("wayCell: its last cell is the receiver's", way[way.length - 1], 7);
    }

    private static void wall(SlownessImager x, int row, int column, boolean isClosed) {
        if (isClosed) {
            x.setCell(8 * row + column, 100000);
        }
    }

    /** Backwards, each cell before is the lowest one on a way of least time. */
    private static void lowestWays() {
        SlownessImager x = new SlownessImager();
        x.addRay(0, 1);
        check.same("lowest way of 0, 1", Check.way(x, 0), Check.list(0, 1, 2, 7));
        x.addRay(1, 0);
        check.same("lowest way of 1, 0", Check.way(x, 1), Check.list(4, 1, 2, 3));
        x.addRay(2, 0);
        check.same("lowest way of 2, 0", Check.way(x, 2), Check.list(8, 5, 2, 3));
        x.addRay(1, 3);
        check.same("lowest way of 1, 3", Check.way(x, 3), Check.list(4, 5, 10, 15));
        x.begin(8, 8);
        x.addRay(4, 4);
        check.same("a straight way", Check.way(x, 0), Check.list(32, 33, 34, 35, 36, 37, 38, 39));
        x.addRay(5, 3);
        check.same("lowest way of 5, 3", Check.way(x, 1), Check.list(40, 33, 26, 27, 28, 29, 30, 31));
        x.begin(3, 3);
        x.setCell(4, 9000);
        x.addRay(1, 1);
        check.same("over or under a slow cell", Check.way(x, 0), Check.list(3, 1, 5));
    }

    private static void length() {
        SlownessImager x = new SlownessImager();
        x.addRay(0, 1);
        check.harmless(x, "length(0, 0)", 1000, () -> x.length(0, 0));
        check.that("length(0, 1)", x.length(0, 1), 2000);
        check.that("length(0, 2)", x.length(0, 2), 2414);
        check.that("length(0, 7)", x.length(0, 7), 1414);
        check.that("length(0, 3)", x.length(0, 3), 0);
        check.that("length(0, 15)", x.length(0, 15), 0);
        x.setCell(1, 90000);
        check.that("length(0, 1) off the way", x.length(0, 1), 0);
        check.badIndex(x, "length(1, 0)", () -> x.length(1, 0));
        check.badIndex(x, "length(-1, 0)", () -> x.length(-1, 0));
        check.badIndex(x, "length(0, 16)", () -> x.length(0, 16));
        check.badIndex(x, "length(0, -1)", () -> x.length(0, -1));
    }

    private static void least() {
        SlownessImager x = new SlownessImager();
        x.begin(3, 3);
        x.setTrue(4, 10);
        x.setCell(4, 50000);
        check.harmless(x, "least(0, 8, false)", 2828000 + 4000000, () -> x.least(0, 8, false));
        check.harmless(x, "least(0, 8, true)", 1414 * 1010 * 2, () -> x.least(0, 8, true));
        check.that("least(8, 0, true)", x.least(8, 0, true), 1414 * 1010 * 2);
        check.that("least(4, 4, false)", x.least(4, 4, false), 0);
        check.that("least(4, 3, false)", x.least(4, 3, false), 51000000);
        check.that("least(4, 0, true)", x.least(4, 0, true), 1414 * 1010);
        check.badIndex(x, "least(9, 0, true)", () -> x.least(9, 0, true));
        check.badIndex(x, "least(0, 9, false)", () -> x.least(0, 9, false));
        check.badIndex(x, "least(-1, 0, true)", () -> x.least(-1, 0, true));
        check.badIndex(x, "least(0, -1, true)", () -> x.least(0, -1, true));
        check.badIndex(x, "least(9, 9, true)", () -> x.least(9, 9, true));
    }
}
