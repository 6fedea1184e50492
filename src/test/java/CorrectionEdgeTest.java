import java.math.BigInteger;
import java.util.ArrayList;
import java.util.List;

/**
 * The boundary cases of promises 11 to 15 and of what the description says of corrections and
 * smoothing: a test for each sentence that names one, with the sentence in front of it.
 */
final class CorrectionEdgeTest {
    private static final Check check = new Check("CorrectionEdgeTest");

    public static void main(String[] args) {
        check.runAll(CorrectionEdgeTest.class);
        check.end();
    }

    private static void sameSlownesses(String what, SlownessImager got, SlownessImager due) {
        check.same(what, Check.slownesses(got), Check.slownesses(due));
    }

    private static void otherSlownesses(String what, SlownessImager got, SlownessImager other) {
        boolean isSame = java.util.Arrays.equals(Check.slownesses(got), Check.slownesses(other));
        check.that(what + ": the same slownesses", isSame ? 1 : 0, 0);
    }

    private static void correctInTurn(SlownessImager x, int... rays) {
        for (int ray : rays) {
            x.correct(ray);
        }
    }

    /** Two columns and two rows, and a ray with a residual from cell 0 straight to cell 1. */
    private static SlownessImager straight(long residual) {
        SlownessImager x = new SlownessImager();
        x.begin(2, 2);
        x.addRay(0, 0);
        x.setTime(0, 2000000 + residual);
        return x;
    }

    /** Two columns and two rows, and a ray with a residual from cell 0 over the corner to cell 3. */
    private static SlownessImager diagonal(long residual) {
        SlownessImager x = new SlownessImager();
        x.begin(2, 2);
        x.addRay(0, 1);
        x.setTime(0, 2828000 + residual);
        return x;
    }

    // ---- promise 11: setOrder

    /** "relaxation: 1 to 2000", "Returns the previous relaxation.", "1000 at first" */
    private static void setOrderTakesRelaxationsUpTo2000() {
        SlownessImager x = new SlownessImager();
        check.badArguments(x, "relaxation", 1, 2000, relaxation -> x.setOrder(relaxation, 0, 0));
        check.that("1", x.setOrder(1, 0, 0), 1000);
        check.that("2000", x.setOrder(2000, 0, 0), 1);
        check.that("2000 is there", x.section(7), 2000);
        check.that("1999", x.setOrder(1999, 0, 0), 2000);
    }

    /** "order: 0 to 3" */
    private static void setOrderTakesOrdersUpToThree() {
        SlownessImager x = new SlownessImager();
        check.badArguments(x, "order", 0, 3, order -> x.setOrder(1, order, 0));
        for (int order = 3; order >= 0; order--) {
            check.that("relaxation", x.setOrder(1000, order, 0), 1000);
            check.that("order", x.section(8), order);
        }
    }

    /** "seed: 0 to 999999" */
    private static void setOrderTakesSeedsUpTo999999() {
        SlownessImager x = new SlownessImager();
        check.badArguments(x, "seed", 0, 999999, seed -> x.setOrder(1, 3, seed));
        int[] seeds = {0, 1, 999998, 999999};
        long[] digests = new long[4];
        for (int i = 0; i < 4; i++) {
            SlownessImager y = new SlownessImager();
            y.setOrder(1000, 0, seeds[i]);
            digests[i] = y.digest();
            check.that("s = " + seeds[i], weight(digests[i] - digests[0], 16 * 4 + 5), seeds[i]);
        }
    }

    /** What a value had to be for a digest to be so much greater, with so many values behind it. */
    private static long weight(long difference, int behind) {
        BigInteger modulus = BigInteger.ONE.shiftLeft(64);
        BigInteger factor = BigInteger.valueOf(31).modPow(BigInteger.valueOf(behind), modulus);
        return BigInteger.valueOf(difference).multiply(factor.modInverse(modulus)).longValue();
    }

    /** "Throws IllegalArgumentException if an argument is out of range": any of them, or all. */
    private static void setOrderRefusesAnyArgument() {
        SlownessImager x = new SlownessImager();
        check.badArgument(x, "all too small", () -> x.setOrder(0, -1, -1));
        check.badArgument(x, "all too great", () -> x.setOrder(2001, 4, 1000000));
        check.badArgument(x, "the last two", () -> x.setOrder(2000, 4, 1000000));
        check.that("relaxation", x.section(7), 1000);
        check.that("order", x.section(8), 0);
    }

    // ---- promise 12: correct

    /** "ray: number of a ray" */
    private static void correctTakesTheRaysThatThereAre() {
        SlownessImager x = new SlownessImager();
        for (int ray = 0; ray < 16; ray++) {
            x.addRay(0, 0);
        }
        check.badIndexes(x, "without times", 0, 15, ray -> x.correct(ray));
        x.setTime(15, 6200000);
        check.badState(x, "the first ray", () -> x.correct(0));
        check.badState(x, "the last but one", () -> x.correct(14));
        check.that("the last ray", x.correct(15), 4);
        x.setTime(0, 6000000);
        check.badIndexes(x, "with times", 0, 15, ray -> x.correct(ray));
        check.that("the first ray", x.correct(0), 4);
    }

    /** "Throws IllegalStateException if the ray has no observed time": 0 is one, NONE is none. */
    private static void correctNeedsAnObservedTime() {
        SlownessImager x = straight(0);
        x.setTime(0, -1);
        check.badState(x, "NONE", () -> x.correct(0));
        x.setTime(0, 0);
        check.that("0", x.correct(0), 2);
        check.that("to the lower bound", x.cell(0, 0), 1);
    }

    /** "Corrects by a ray, whether it is used or not." */
    private static void correctByAnUnusedRay() {
        SlownessImager x = straight(100000);
        x.setUsed(0, false);
        check.that("correct", x.correct(0), 2);
        check.that("corrected", x.cell(1, 0), 1050);
        check.that("still not used", x.ray(0, 2), 0);
    }

    private static void step(String what, SlownessImager x, int relaxation, long due) {
        x.setOrder(relaxation, 0, 0);
        check.that(what + ": cells", x.correct(0), due == 0 ? 0 : 2);
        check.that(what + ": step", x.cell(0, 0) - 1000, due);
    }

    /** "round(a / b) .. is floor((2 * a + b) / (2 * b)), where floor rounds towards minus infinity." */
    private static void correctRoundsHalvesUp() {
        long[] straights = {0, 999, 1000, 2999, 3000, 3001, -999, -1000, -1001, -2999, -3000, -3001};
        long[] steps = {0, 0, 1, 1, 2, 2, 0, 0, -1, -1, -1, -2};
        for (int i = 0; i < steps.length; i++) {
            step("straight, " + straights[i], straight(straights[i]), 1000, steps[i]);
        }
        long[] diagonals = {0, 1413, 1414, 4241, 4242, -1413, -1414, -1415, -4242, -4243};
        long[] others = {0, 0, 1, 1, 2, 0, 0, -1, -1, -2};
        for (int i = 0; i < others.length; i++) {
            step("diagonal, " + diagonals[i], diagonal(diagonals[i]), 1000, others[i]);
        }
    }

    /** "There is a relaxation (1 to 2000, in thousandths ..)" */
    private static void correctWithTheLeastAndTheGreatestRelaxation() {
        step("1, less than a half", straight(999999), 1, 0);
        step("1, a half", straight(1000000), 1, 1);
        step("1, minus a half", straight(-1000000), 1, 0);
        step("1, more than minus a half", straight(-1000001), 1, -1);
        step("2000, less than a half", straight(499), 2000, 0);
        step("2000, a half", straight(500), 2000, 1);
        step("2000, minus a half", straight(-500), 2000, 0);
        step("2000, more than minus a half", straight(-501), 2000, -1);
    }

    /** "an observed time (0 to 10^11)": the greatest residual, and the least one. */
    private static void correctByTheGreatestResidual() {
        step("1", straight(Check.MOST_TIME - 2000000), 1, 49999);
        step("1, diagonal", diagonal(Check.MOST_TIME - 2828000), 1, 35360);
        step("2000", straight(Check.MOST_TIME - 2000000), 2000, 99000);
        step("2000, diagonal", diagonal(Check.MOST_TIME - 2828000), 2000, 99000);
        SlownessImager x = straight(0);
        x.slope(false, 100000, 0, 0);
        x.setTime(0, 0);
        x.setOrder(1, 0, 0);
        check.that("the least one", x.correct(0), 2);
        check.that("the least one, by a thousandth", x.cell(0, 0), 99900);
        x.setOrder(2000, 0, 0);
        x.correct(0);
        check.that("the least one, twice", x.cell(1, 0), 1);
    }

    /** "it becomes the lower bound if it is less than that": at it, it stays what it has become. */
    private static void correctStopsAtTheLowerBound() {
        int[] bounds = {948, 949, 950, 951, 952};
        int[] dues = {950, 950, 950, 951, 952};
        for (int i = 0; i < bounds.length; i++) {
            SlownessImager x = straight(-100000);
            x.setBounds(bounds[i], 100000);
            x.correct(0);
            check.same("lower bound " + bounds[i], Check.slownesses(x), Check.list(dues[i], dues[i], 1000, 1000));
        }
    }

    /** ".. and the upper one if it is greater." */
    private static void correctStopsAtTheUpperBound() {
        int[] bounds = {1048, 1049, 1050, 1051, 1052};
        int[] dues = {1048, 1049, 1050, 1050, 1050};
        for (int i = 0; i < bounds.length; i++) {
            SlownessImager x = straight(100000);
            x.setBounds(1, bounds[i]);
            x.correct(0);
            check.same("upper bound " + bounds[i], Check.slownesses(x), Check.list(dues[i], dues[i], 1000, 1000));
        }
    }

    /** Both bounds the same: the cells of the way have no choice, the others are not looked at. */
    private static void correctBetweenEqualBounds() {
        SlownessImager x = straight(500000);
        x.setBounds(777, 777);
        check.that("correct", x.correct(0), 2);
        check.same("slownesses", Check.slownesses(x), Check.list(777, 777, 1000, 1000));
        check.that("correct, again", x.correct(0), 0);
        SlownessImager y = straight(0);
        y.setBounds(100000, 100000);
        check.that("correct without a residual", y.correct(0), 2);
        check.that("the greatest bound", y.cell(0, 0), 100000);
    }

    /** "Returns how many cells have another slowness then.": one that stays at a bound has not. */
    private static void correctCountsOtherSlownesses() {
        SlownessImager x = straight(0);
        check.that("none without a residual", x.correct(0), 0);
        x.setCell(1, 1200);
        x.setBounds(1, 1200);
        x.setTime(0, 2300000);
        check.that("one of two", x.correct(0), 1);
        check.same("one of two", Check.slownesses(x), Check.list(1050, 1200, 1000, 1000));
        x.setBounds(1, 1199);
        check.that("the other one", x.correct(0), 2);
        check.same("the other one", Check.slownesses(x), Check.list(1075, 1199, 1000, 1000));
    }

    /** "The slowness of each cell c with l(c) greater than 0 increases": no other cell's. */
    private static void correctLeavesCellsOffTheWay() {
        SlownessImager x = new SlownessImager();
        x.begin(8, 8);
        x.addRay(7, 7);
        x.setTime(0, Check.MOST_TIME);
        check.that("correct", x.correct(0), 8);
        for (int cell = 0; cell < 64; cell++) {
            check.that("cell " + cell, x.cell(cell, 0), cell < 56 ? 1000 : 100000);
        }
    }

    /** "its way is found with the present slownesses": the first correction makes another way the nearest. */
    private static void correctAlongThePresentWay() {
        SlownessImager x = new SlownessImager();
        x.begin(3, 3);
        x.addRay(1, 1);
        x.setTime(0, 10000000);
        check.that("straight", x.correct(0), 3);
        check.same("straight", Check.slownesses(x),
                Check.list(1000, 1000, 1000, 2000, 3000, 2000, 1000, 1000, 1000));
        check.same("the way then", Check.way(x, 0), Check.list(3, 1, 5));
        check.that("its residual", x.residual(0), 1516000);
        check.that("over", x.correct(0), 3);
        check.same("over", Check.slownesses(x),
                Check.list(1000, 1357, 1000, 2179, 3000, 2179, 1000, 1000, 1000));
    }

    // ---- promise 13: sweep

    /** "sweeps: 1 to 20" */
    private static void sweepTakesOneToTwenty() {
        SlownessImager x = straight(100000);
        check.badArguments(x, "sweeps", 1, 20, sweeps -> x.sweep(sweeps));
        check.that("1", x.sweep(1), 1);
        check.that("20", x.sweep(20), 20);
    }

    /** "Returns how many corrections were made.": none without rays, or without active ones. */
    private static void sweepWithoutActiveRays() {
        for (int order = 0; order <= 3; order++) {
            int sweptIn = order;
            SlownessImager x = new SlownessImager();
            x.setOrder(1000, order, 5);
            check.undoable(x, "order " + order + ", no rays", 0, () -> x.sweep(20));
            SlownessImager y = inactive();
            SlownessImager z = inactive();
            y.setOrder(1000, sweptIn, 5);
            z.setOrder(1000, sweptIn, 5);
            check.that("order " + order + ", no active rays", y.sweep(20), 0);
            z.setBounds(1, 100000);
            check.that("order " + order + ", nothing changed, s neither", y.digest(), z.digest());
        }
    }

    /** A ray with a time that is not used, and a used one without a time. */
    private static SlownessImager inactive() {
        SlownessImager x = new SlownessImager();
        x.addRay(0, 0);
        x.addRay(1, 1);
        x.setTime(0, 5);
        x.setUsed(0, false);
        return x;
    }

    /** "A sweep corrects by each active ray once.": not by a ray that is not used or has no time. */
    private static void sweepLeavesInactiveRaysOut() {
        for (int order = 0; order <= 3; order++) {
            SlownessImager x = inactive();
            x.addRay(2, 2);
            x.setTime(2, 7000000);
            x.setOrder(1000, order, 1);
            check.that("order " + order, x.sweep(20), 20);
            check.that("the first row", x.cell(0, 0), 1000);
            check.that("the second row", x.cell(4, 0), 1000);
            check.that("the third row changed", x.cell(8, 0) > 1000 ? 1 : 0, 1);
            check.that("the fourth row", x.cell(12, 0), 1000);
        }
    }

    /** "There are at most 16 rays": sweeps of all of them, in each order. */
    private static void sweepOfSixteenRays() {
        for (int order = 0; order <= 3; order++) {
            SlownessImager x = full();
            SlownessImager y = full();
            x.setOrder(700, order, 999999);
            y.setOrder(700, order, 999999);
            check.that("order " + order, x.sweep(12), 192);
            long s = 999999;
            for (int i = 0; i < 12; i++) {
                s = sweepByHand(y, order, s);
            }
            sameSlownesses("order " + order, x, y);
            check.that("most sweeps in order " + order, x.sweep(20), 320);
        }
    }

    private static SlownessImager full() {
        SlownessImager x = new SlownessImager();
        x.begin(3, 3);
        x.slope(true, 800, 150, 90);
        for (int ray = 0; ray < 16; ray++) {
            x.addRay(ray % 3, (ray / 3 + ray) % 3);
        }
        x.observe(500, 3);
        return x;
    }

    /** One sweep by single corrections; answers the number s then. */
    private static long sweepByHand(SlownessImager x, int order, long seed) {
        List<Integer> left = new ArrayList<>();
        List<Long> misfits = new ArrayList<>();
        for (int ray = 0; ray < 16; ray++) {
            left.add(ray);
            misfits.add(order == 2 ? Math.abs(x.residual(ray)) : 0);
        }
        long s = seed;
        while (!left.isEmpty()) {
            int place = order == 1 ? left.size() - 1 : 0;
            if (order == 2) {
                for (int i = 1; i < left.size(); i++) {
                    place = misfits.get(i) > misfits.get(place) ? i : place;
                }
            }
            if (order == 3) {
                s = next(s);
                place = (int) (s / 65536 % left.size());
            }
            misfits.remove(place);
            x.correct(left.remove(place));
        }
        return s;
    }

    private static long next(long s) {
        BigInteger product = BigInteger.valueOf(1103515245).multiply(BigInteger.valueOf(s));
        return product.add(BigInteger.valueOf(12345)).mod(BigInteger.valueOf(2147483648L)).longValue();
    }

    private static SlownessImager crossed() {
        SlownessImager x = new SlownessImager();
        x.begin(3, 3);
        x.addRay(0, 2);
        x.addRay(2, 0);
        x.addRay(1, 1);
        x.setTime(0, 5656000 + 50000);
        x.setTime(1, 5656000 - 50000);
        x.setTime(2, 4000000 + 20000);
        return x;
    }

    /** "0 by ascending numbers; 1 by descending numbers": it matters which is first. */
    private static void sweepUpAndDown() {
        SlownessImager up = crossed();
        SlownessImager down = crossed();
        down.setOrder(1000, 1, 0);
        up.sweep(1);
        down.sweep(1);
        SlownessImager y = crossed();
        SlownessImager z = crossed();
        correctInTurn(y, 0, 1, 2);
        correctInTurn(z, 2, 1, 0);
        sameSlownesses("up", up, y);
        sameSlownesses("down", down, z);
        otherSlownesses("up and down", up, down);
    }

    /** "by the absolute values of the residuals .., equal ones by ascending numbers": 50000 and -50000. */
    private static void sweepByEqualResiduals() {
        SlownessImager x = crossed();
        x.setOrder(1000, 2, 0);
        check.that("absolute values", x.residual(0) + x.residual(1), 0);
        x.sweep(1);
        SlownessImager y = crossed();
        correctInTurn(y, 0, 1, 2);
        sameSlownesses("0 first", x, y);
        SlownessImager z = crossed();
        z.setTime(1, 5656000 - 50001);
        SlownessImager w = crossed();
        w.setTime(1, 5656000 - 50001);
        z.setOrder(1000, 2, 0);
        z.sweep(1);
        correctInTurn(w, 1, 0, 2);
        sameSlownesses("1 first", z, w);
        otherSlownesses("0 first and 1 first", x, z);
    }

    /** Sixteen equal residuals: ascending numbers, as in order 0. */
    private static void sweepBySixteenEqualResiduals() {
        SlownessImager x = equal();
        SlownessImager y = equal();
        x.setOrder(1000, 2, 0);
        x.sweep(1);
        y.sweep(1);
        sameSlownesses("as in order 0", x, y);
    }

    private static SlownessImager equal() {
        SlownessImager x = new SlownessImager();
        x.begin(3, 3);
        for (int ray = 0; ray < 16; ray++) {
            x.addRay(ray % 3, ray / 3 % 3);
            x.setTime(ray, x.time(ray, 0) + (ray % 2 == 0 ? 70000 : -70000));
        }
        return x;
    }

    /** ".. of the residuals at the beginning of the sweep": not of those after the first correction. */
    private static void sweepByResidualsAtItsBeginning() {
        SlownessImager x = shared();
        x.setOrder(1000, 2, 0);
        x.sweep(1);
        check.same("slownesses", Check.slownesses(x), Check.list(1051, 1045, 1000, 1006));
        SlownessImager y = shared();
        correctInTurn(y, 0, 2, 1);
        check.same("by the residuals after it", Check.slownesses(y), Check.list(1047, 1044, 1000, 1003));
    }

    /** Ray 1 has the second greatest residual, but the least one once ray 0 has corrected. */
    private static SlownessImager shared() {
        SlownessImager x = new SlownessImager();
        x.begin(2, 2);
        x.addRay(0, 0);
        x.addRay(0, 0);
        x.addRay(0, 1);
        x.setTime(0, 2100000);
        x.setTime(1, 2090000);
        x.setTime(2, 2908000);
        return x;
    }

    /** "s becomes (1103515245 * s + 12345) modulo 2147483648", from seeds at both ends. */
    private static void sweepAtRandomFromEverySeed() {
        int[] seeds = {0, 1, 2, 65535, 65536, 999998, 999999};
        for (int seed : seeds) {
            SlownessImager x = full();
            SlownessImager y = full();
            x.setOrder(1000, 3, seed);
            check.that("sweeps from " + seed, x.sweep(2), 32);
            sweepByHand(y, 3, sweepByHand(y, 3, seed));
            sameSlownesses("seed " + seed, x, y);
        }
    }

    /** "the place .. modulo (number of rays left)": with one ray, s goes on by one for each sweep. */
    private static void sweepAtRandomOfOneRay() {
        SlownessImager x = straight(100000);
        SlownessImager y = straight(100000);
        x.setOrder(1000, 3, 999999);
        y.setOrder(1000, 3, 999999);
        check.that("twenty sweeps", x.sweep(20), 20);
        y.sweep(1);
        y.undo();
        for (int i = 0; i < 20; i++) {
            check.that("one sweep", y.sweep(1), 1);
        }
        sameSlownesses("slownesses", x, y);
        check.that("the number s", x.digest(), y.digest());
    }

    /** "(s continues from sweep to sweep; setOrder() sets it.)" */
    private static void numberGoesOnFromSweepToSweep() {
        SlownessImager x = full();
        SlownessImager y = full();
        x.setOrder(1000, 3, 7);
        x.sweep(1);
        x.observe(500, 3);
        x.smooth(100);
        x.sweep(1);
        long s = sweepByHand(y, 3, 7);
        y.observe(500, 3);
        y.smooth(100);
        sweepByHand(y, 3, s);
        sameSlownesses("it goes on", x, y);
        x.setOrder(1000, 3, 7);
        x.sweep(1);
        sweepByHand(y, 3, 7);
        sameSlownesses("it is set", x, y);
    }

    /** The other orders leave the number s as it is. */
    private static void numberStaysInOtherOrders() {
        for (int order = 0; order <= 2; order++) {
            SlownessImager x = full();
            SlownessImager y = full();
            x.setOrder(1000, order, 7);
            y.setOrder(1000, order, 8);
            x.sweep(20);
            y.sweep(20);
            int behind = 9 * 4 + 5;
            for (int ray = 0; ray < 16; ray++) {
                behind += 7 + x.ray(ray, 4);
            }
            check.that("order " + order, weight(y.digest() - x.digest(), behind), 1);
        }
    }

    // ---- promise 14: smooth

    /** "weight: 1 to 100" */
    private static void smoothTakesWeightsUpTo100() {
        SlownessImager x = new SlownessImager();
        check.badArguments(x, "weight", 1, 100, weight -> x.smooth(weight));
        x.setCell(5, 1500);
        check.that("1", x.smooth(1), 5);
        check.that("the middle", x.cell(5, 0), 1100);
        SlownessImager y = new SlownessImager();
        y.setCell(5, 1104);
        check.that("100", y.smooth(100), 5);
        check.that("the middle", y.cell(5, 0), 1100);
    }

    /** "the number of these": two at a corner, three at a side, four inside, none over a corner. */
    private static void smoothCountsTheNeighbours() {
        SlownessImager x = new SlownessImager();
        x.begin(3, 3);
        x.slope(false, 10, 0, 0);
        x.setCell(0, 1210);
        check.that("a corner", x.smooth(2), 3);
        check.same("a corner", Check.slownesses(x), Check.list(610, 250, 10, 250, 10, 10, 10, 10, 10));
        x.slope(false, 10, 0, 0);
        x.setCell(1, 1210);
        check.that("a side", x.smooth(2), 4);
        check.same("a side", Check.slownesses(x), Check.list(310, 490, 310, 10, 210, 10, 10, 10, 10));
        x.slope(false, 10, 0, 0);
        x.setCell(4, 1210);
        check.that("inside", x.smooth(2), 5);
        check.same("inside", Check.slownesses(x), Check.list(10, 250, 10, 250, 410, 250, 10, 250, 10));
    }

    /** Rows do not join at their ends. */
    private static void smoothStaysInRows() {
        SlownessImager x = new SlownessImager();
        x.begin(4, 2);
        x.setCell(3, 2000);
        check.that("the end of a row", x.smooth(1), 3);
        check.same("the end of a row", Check.slownesses(x),
                Check.list(1000, 1000, 1250, 1333, 1000, 1000, 1000, 1333));
    }

    /** "round(..)": a fourth goes down, a half and three fourths go up. */
    private static void smoothRoundsHalvesUp() {
        int[] peaks = {1001, 1002, 1003};
        int[] dues = {1000, 1001, 1001};
        for (int i = 0; i < 3; i++) {
            SlownessImager x = new SlownessImager();
            x.begin(2, 2);
            x.setCell(0, peaks[i]);
            x.smooth(2);
            check.that("beside " + peaks[i], x.cell(1, 0), dues[i]);
            check.that("over the corner of " + peaks[i], x.cell(3, 0), 1000);
        }
    }

    /** "all cells get new slownesses at the same time" */
    private static void smoothAllCellsAtOnce() {
        SlownessImager x = new SlownessImager();
        x.begin(8, 2);
        x.slope(false, 1, 0, 0);
        x.setCell(0, 10001);
        check.that("cells", x.smooth(1), 3);
        check.same("slownesses", Check.slownesses(x),
                Check.list(3334, 2501, 1, 1, 1, 1, 1, 1, 3334, 1, 1, 1, 1, 1, 1, 1));
        x.slope(false, 1, 0, 0);
        x.setCell(15, 10001);
        x.smooth(1);
        check.same("from the end", Check.slownesses(x),
                Check.list(1, 1, 1, 1, 1, 1, 1, 3334, 1, 1, 1, 1, 1, 1, 2501, 3334));
    }

    /** "Each cell has a slowness from 1 to 100000": the least and the greatest ones stay so. */
    private static void smoothTheLeastAndTheGreatest() {
        int[] weights = {1, 100};
        for (int weight : weights) {
            SlownessImager x = new SlownessImager();
            x.begin(8, 8);
            x.slope(false, 100000, 0, 0);
            check.that("all the greatest", x.smooth(weight), 0);
            x.slope(false, 1, 0, 0);
            check.that("all the least", x.smooth(weight), 0);
            check.that("sum", x.fit(4), 64);
        }
        SlownessImager y = new SlownessImager();
        y.begin(2, 2);
        y.slope(false, 1, 0, 0);
        y.setCell(0, 100000);
        check.that("both", y.smooth(100), 3);
        check.same("both", Check.slownesses(y), Check.list(98039, 981, 981, 1));
    }

    /** "they only matter where it is told" (the bounds): not here, and the true ones stay. */
    private static void smoothLooksAtNoBounds() {
        SlownessImager x = new SlownessImager();
        x.begin(2, 2);
        x.setBounds(5, 6);
        x.setCell(0, 5000);
        x.setTrue(0, 7);
        check.that("cells", x.smooth(2), 3);
        check.same("slownesses", Check.slownesses(x), Check.list(3000, 2000, 2000, 1000));
        check.same("true ones", Check.cells(x, 1), Check.list(7, 1000, 1000, 1000));
    }

    // ---- promise 15: fill

    /** "that has at least one neighbour .. with a coverage greater than 0": none without active rays. */
    private static void fillWithoutActiveRays() {
        SlownessImager x = new SlownessImager();
        x.slope(false, 500, 7, 11);
        check.undoable(x, "no rays", 0, () -> x.fill());
        SlownessImager y = inactive();
        y.slope(false, 500, 7, 11);
        check.undoable(y, "no active rays", 0, () -> y.fill());
        check.that("sum", y.fit(4), x.fit(4));
    }

    /** "each cell with the coverage 0": there may be none. */
    private static void fillWithAllCellsCovered() {
        SlownessImager x = new SlownessImager();
        x.begin(2, 2);
        x.slope(false, 500, 7, 11);
        x.addRay(0, 0);
        x.addRay(1, 1);
        x.setTime(0, 0);
        x.setTime(1, 0);
        check.that("uncovered", x.section(4), 0);
        check.undoable(x, "fill", 0, () -> x.fill());
        check.same("slownesses", Check.slownesses(x), Check.list(500, 507, 511, 518));
    }

    /** "at least one neighbour (of any kind)": one over a corner is enough; without one, all stays. */
    private static void fillOverOneCorner() {
        SlownessImager x = new SlownessImager();
        x.setCell(5, 900);
        x.setCell(3, 7777);
        x.setCell(12, 8888);
        x.addRay(0, 3);
        x.setTime(0, 0);
        check.that("cells", x.fill(), 6);
        check.same("slownesses", Check.slownesses(x), Check.list(
                1000, 950, 900, 7777, 950, 900, 950, 1000, 900, 950, 1000, 1000, 8888, 1000, 1000, 1000));
    }

    /** "the rounded mean of the slownesses of these, round(sum / number)": halves go up. */
    private static void fillRoundsHalvesUp() {
        SlownessImager x = new SlownessImager();
        x.begin(3, 3);
        x.addRay(0, 0);
        x.setTime(0, 0);
        x.setCell(1, 1001);
        x.setCell(2, 1003);
        check.that("cells", x.fill(), 3);
        check.same("a half, a third, a whole", Check.slownesses(x),
                Check.list(1000, 1001, 1003, 1001, 1001, 1002, 1000, 1000, 1000));
        x.setCell(1, 1000);
        x.setCell(2, 1002);
        x.fill();
        check.that("two thirds", x.cell(4, 0), 1001);
    }

    /** "all at the same time": what is filled does not fill its neighbours. */
    private static void fillAllCellsAtOnce() {
        SlownessImager x = new SlownessImager();
        x.begin(2, 8);
        x.slope(false, 9000, 0, 0);
        x.setCell(6, 10);
        x.setCell(7, 30);
        x.addRay(3, 3);
        x.setTime(0, 0);
        check.that("cells", x.fill(), 4);
        check.same("slownesses", Check.slownesses(x), Check.list(
                9000, 9000, 9000, 9000, 20, 20, 10, 30, 20, 20, 9000, 9000, 9000, 9000, 9000, 9000));
        check.that("once more", x.fill(), 0);
    }

    /** "neighbour (of any kind)": rows do not join at their ends. */
    private static void fillStaysInRows() {
        SlownessImager x = new SlownessImager();
        x.begin(4, 3);
        x.setCell(8, 5000);
        x.addRay(2, 2);
        x.setTime(0, 0);
        check.that("cells", x.fill(), 2);
        check.same("slownesses", Check.slownesses(x),
                Check.list(1000, 1000, 1000, 1000, 3000, 2333, 1000, 1000, 5000, 1000, 1000, 1000));
    }

    /** The greatest slownesses, and bounds that are not looked at. */
    private static void fillLooksAtNoBounds() {
        SlownessImager x = new SlownessImager();
        x.begin(8, 8);
        x.setBounds(1, 1);
        for (int cell = 0; cell < 8; cell++) {
            x.setCell(cell, 100000);
        }
        x.addRay(0, 0);
        x.setTime(0, 0);
        check.same("the way goes round", Check.way(x, 0), Check.list(0, 8, 9, 10, 11, 12, 13, 14, 15, 7));
        check.that("cells", x.fill(), 6);
        check.that("beside the source", x.cell(1, 0), 25750);
        check.that("above the way", x.cell(2, 0), 1000);
        check.that("under the way", x.cell(16, 0), 1000);
        check.that("covered", x.cell(0, 0), 100000);
    }
}
