/** Promises 22 to 25: values of cells and of the section, the fit, and what-if questions. */
final class ValueTest {
    private static final Check check = new Check("ValueTest");

    public static void main(String[] args) {
        cell();
        section();
        fit();
        fitOfSeveral();
        whatIf();
        check.end();
    }

    private static void cell() {
        SlownessImager x = new SlownessImager();
        x.addRay(0, 0);
        x.addRay(0, 3);
        x.addRay(0, 1);
        x.setCell(15, 1001);
        x.setTrue(15, 1002);
        check.harmless(x, "cell(15, 0)", 1001, () -> x.cell(15, 0));
        check.harmless(x, "cell(15, 1)", 1002, () -> x.cell(15, 1));
        check.that("cell(0, 2) without active rays", x.cell(0, 2), 0);
        check.that("cell(0, 3) without active rays", x.cell(0, 3), 0);
        x.observe(0, 0);
        check.harmless(x, "cell(0, 2)", 3, () -> x.cell(0, 2));
        check.harmless(x, "cell(0, 3)", 1000 + 1414 + 1000, () -> x.cell(0, 3));
        check.that("cell(1, 2)", x.cell(1, 2), 2);
        check.that("cell(2, 3)", x.cell(2, 3), 2000 + 2414);
        x.setUsed(0, false);
        check.that("cell(0, 2) of used rays", x.cell(0, 2), 2);
        x.setTime(2, -1);
        check.that("cell(0, 3) of active rays", x.cell(0, 3), 1414);
        check.that("cell(4, 2)", x.cell(4, 2), 0);
        x.setCell(5, 90000);
        check.that("cell(5, 3) after a change", x.cell(5, 3), 0);
        x.setCell(5, 1000);
        check.that("cell(5, 3) after another one", x.cell(5, 3), 2828);
        x.setCell(5, 90000);
        check.that("cell(5, 2) after a change", x.cell(5, 2), 0);
        check.badIndex(x, "cell(16, 0)", () -> x.cell(16, 0));
        check.badIndex(x, "cell(-1, 4)", () -> x.cell(-1, 4));
        check.badArgument(x, "cell(0, 4)", () -> x.cell(0, 4));
        check.badArgument(x, "cell(0, -1)", () -> x.cell(0, -1));
    }

    private static void section() {
        SlownessImager x = new SlownessImager();
        x.begin(5, 3);
        x.addRay(0, 0);
        x.addRay(0, 2);
        x.addRay(1, 1);
        x.setTime(0, 7);
        x.setTime(1, 7);
        x.setUsed(1, false);
        x.setBounds(11, 22);
        x.setOrder(33, 2, 0);
        long[] due = {5, 3, 3, 1, 10, 11, 22, 33, 2};
        for (int i = 0; i < due.length; i++) {
            int what = i;
            check.harmless(x, "section(" + i + ")", due[i], () -> x.section(what));
        }
        x.setTime(2, 0);
        check.that("section(3) of two rays", x.section(3), 2);
        check.that("section(4) of two rays", x.section(4), 5);
        check.badArgument(x, "section(9)", () -> x.section(9));
        check.badArgument(x, "section(-1)", () -> x.section(-1));
    }

    private static void fit() {
        SlownessImager x = new SlownessImager();
        x.addRay(0, 0);
        long[] due = {0, 0, -1, 0, 16000};
        for (int i = 0; i < due.length; i++) {
            int what = i;
            check.harmless(x, "fit(" + i + ") without active rays", due[i], () -> x.fit(what));
        }
        check.badArgument(x, "fit(5)", () -> x.fit(5));
        check.badArgument(x, "fit(-1)", () -> x.fit(-1));
        x.setCell(15, 300);
        x.setTrue(14, 100);
        check.that("fit(3)", x.fit(3), 700 + 900);
        check.that("fit(4)", x.fit(4), 15300);
        x.setTime(0, 6000000);
        check.that("fit(0) without residuals", x.fit(0), 0);
        check.that("fit(1) without residuals", x.fit(1), 0);
        check.that("fit(2) without residuals", x.fit(2), 0);
    }

    private static void fitOfSeveral() {
        SlownessImager x = new SlownessImager();
        long[] residuals = {-90, 300, -400, 400, 1000};
        for (int ray = 0; ray < 5; ray++) {
            x.addRay(1, 1);
            x.setTime(ray, 6000000 + residuals[ray]);
        }
        x.setUsed(4, false);
        check.that("fit(0)", x.fit(0), 90 + 300 + 400 + 400);
        check.that("fit(1)", x.fit(1), 400);
        check.that("fit(2)", x.fit(2), 2);
        x.setUsed(2, false);
        check.that("fit(2), the other one", x.fit(2), 3);
        x.setUsed(4, true);
        check.that("fit(1), used again", x.fit(1), 1000);
        x.begin(2, 2);
        x.slope(true, 1, 0, 0);
        x.slope(false, 100000, 0, 0);
        check.that("fit(3) of great differences", x.fit(3), 399996);
        check.that("fit(4) of great slownesses", x.fit(4), 400000);
        for (int ray = 0; ray < 16; ray++) {
            x.addRay(0, 0);
            x.setTime(ray, 100000000000L);
        }
        check.that("fit(0) of great residuals", x.fit(0), 16 * (100000000000L - 200000000L));
    }

    private static void whatIf() {
        SlownessImager x = new SlownessImager();
        x.begin(5, 3);
        x.setCell(1, 5000);
        x.setCell(2, 5000);
        x.addRay(0, 0);
        check.harmless(x, "whatIf(0, 6, 9000)", 2828000, () -> x.whatIf(0, 6, 9000));
        check.harmless(x, "whatIf(0, 7, 10)", -2389860, () -> x.whatIf(0, 7, 10));
        check.that("whatIf(0, 1, 1)", x.whatIf(0, 1, 1), -2411586);
        check.that("whatIf(0, 6, 1000)", x.whatIf(0, 6, 1000), 0);
        check.that("whatIf(0, 14, 100000)", x.whatIf(0, 14, 100000), 0);
        check.that("whatIf: the way stays", x.wayCell(0, 1), 6);
        check.badIndex(x, "whatIf(1, 0, 1)", () -> x.whatIf(1, 0, 1));
        check.badIndex(x, "whatIf(-1, 0, 0)", () -> x.whatIf(-1, 0, 0));
        check.badIndex(x, "whatIf(0, 15, 0)", () -> x.whatIf(0, 15, 0));
        check.badIndex(x, "whatIf(0, -1, 1)", () -> x.whatIf(0, -1, 1));
        check.badArgument(x, "whatIf(0, 0, 0)", () -> x.whatIf(0, 0, 0));
        check.badArgument(x, "whatIf(0, 0, 100001)", () -> x.whatIf(0, 0, 100001));
    }
}
