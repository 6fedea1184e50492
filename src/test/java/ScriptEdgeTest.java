/**
 * The boundary cases of promises 26 to 28 and of what the description says of scripts: a test for
 * each sentence that names one, with the sentence in front of it.
 */
final class ScriptEdgeTest {
    private static final Check check = new Check("ScriptEdgeTest");
    private static final String[] WORDS = {"ray", "cell", "true", "take", "sweep", "smooth", "fill", "use"};
    private static final int[] NUMBERS = {2, 2, 2, 1, 1, 1, 0, 2};
    private static final int TOO_SOON = -1;
    private static final int STANDS = -2;

    public static void main(String[] args) {
        check.runAll(ScriptEdgeTest.class);
        check.end();
    }

    private static SlownessImager typed(String text) {
        SlownessImager x = new SlownessImager();
        Check.type(x, text);
        return x;
    }

    private static void answers(String text, int due) {
        check.that("run() of '" + text + "'", typed(text).run(), due);
    }

    private static void fault(String text, int due) {
        SlownessImager x = typed(text);
        check.harmless(x, "run() of '" + text + "'", -10 - due, () -> x.run());
    }

    // ---- promise 26: type

    /** "value: 0 to 127" */
    private static void typeTakesZeroTo127() {
        SlownessImager x = new SlownessImager();
        check.badArguments(x, "type", 0, 127, value -> x.type(value));
        int[] bad = {128, 255, 256, 65536 + 32, -96, -128, -129};
        for (int value : bad) {
            check.badArgument(x, "type of " + value, () -> x.type(value));
        }
        check.that("0", x.type(0), 1);
        check.that("127", x.type(127), 2);
    }

    /** "The script has at most 120 bytes." */
    private static void typeStopsAt120Bytes() {
        SlownessImager x = new SlownessImager();
        for (int length = 1; length <= 120; length++) {
            check.that("length", x.type(length % 128), length);
        }
        check.badState(x, "one more", () -> x.type(0));
        check.badState(x, "one more", () -> x.type(127));
        check.that("clearScript()", x.clearScript(), 120);
        check.that("the first one again", x.type(127), 1);
    }

    /** "If several exceptions of a method apply, the one that is listed first is thrown." */
    private static void typeRefusesTheValueFirst() {
        SlownessImager x = typed(" ".repeat(120));
        check.badArguments(x, "type to 120 bytes", 0, 127, value -> x.type(value));
    }

    /** "A call that throws an exception changes nothing.": the script reads as before. */
    private static void refusedBytesDoNotStand() {
        SlownessImager x = typed("fil");
        check.badArgument(x, "type(128)", () -> x.type(128));
        check.badArgument(x, "type(-1)", () -> x.type(-1));
        x.type('l');
        x.type(';');
        check.that("run()", x.run(), 1);
        SlownessImager y = typed(" ".repeat(115) + "fill;");
        check.badState(y, "one more", () -> y.type('x'));
        check.that("run() of 120 bytes", y.run(), 1);
    }

    // ---- promise 27: clearScript

    /** "Returns the length that it had.": 0, 1 and 120. */
    private static void clearScriptAnswersTheLength() {
        SlownessImager x = new SlownessImager();
        check.that("of none", x.clearScript(), 0);
        x.type(0);
        check.that("of one byte", x.clearScript(), 1);
        Check.type(x, "z".repeat(120));
        check.that("of 120 bytes", x.clearScript(), 120);
        check.that("of none again", x.clearScript(), 0);
    }

    /** "Empties the script.": nothing of an older, longer one is left behind a shorter one. */
    private static void clearedScriptLeavesNothing() {
        SlownessImager x = typed("cell 0 5;cell 1 6;cell 2 7;");
        check.that("the longer one", x.run(), 3);
        x.clearScript();
        check.that("an empty one", x.run(), 0);
        Check.type(x, "cell 3 8;");
        check.that("a shorter one", x.run(), 1);
        check.that("what it did", x.cell(3, 0), 8);
        Check.type(x, "cell 3 ");
        check.that("one that ends too soon", x.run(), -17);
    }

    // ---- what a script is

    /** "(perhaps none: a script that is empty, or has spaces alone, has no fault)" */
    private static void scriptsOfSpacesHaveNoFault() {
        answers("", 0);
        answers(" ", 0);
        answers(" ".repeat(119), 0);
        answers(" ".repeat(120), 0);
    }

    /** "each of which is a word .., followed by its numbers": one more or one less is a fault. */
    private static void wordsHaveTheirNumbers() {
        for (int i = 0; i < WORDS.length; i++) {
            String text = WORDS[i];
            for (int number = 0; number < NUMBERS[i]; number++) {
                fault(text, text.length());
                fault(text + ";", text.length());
                fault(text + " ;", text.length() + 1);
                fault(text + "  ", text.length() + 2);
                text += " 1";
            }
            answers(text + ";", WORDS[i].equals("use") ? 0 : 1);
            fault(text, text.length());
            fault(text + " ", text.length() + 1);
            fault(text + " 1;", text.length() + 1);
            fault(text + " x;", text.length() + 1);
            fault(text + ";;", text.length() + 1);
        }
    }

    /** "A word that is not one of these is at fault with its first byte": a letter more, less or other. */
    private static void wordsAreWrittenInFull() {
        for (String word : WORDS) {
            for (int length = 1; length < word.length(); length++) {
                fault(word.substring(0, length), 0);
                fault("fill;" + word.substring(0, length) + " 1 1;", 5);
                fault(" " + word.substring(length) + ";", 1);
            }
            for (int place = 0; place < word.length(); place++) {
                char letter = word.charAt(place);
                fault(word.substring(0, place) + (letter == 'z' ? 'a' : (char) (letter + 1))
                        + word.substring(place + 1) + " 1 1;", 0);
                fault(word.substring(0, place) + (char) (letter - 32) + word.substring(place + 1) + " 1;", 0);
            }
            fault(word + "a 1 1;", 0);
            fault(word + "z", 0);
            fault(word + word + " 1;", 0);
        }
    }

    /** ".. found when the word is complete: when a byte that is no letter, or the end .., follows it." */
    private static void wordsAreCompleteBeforeTheyAreAtFault() {
        fault("x", 0);
        fault("   x", 3);
        fault("fill ; x", 7);
        fault("fill ; xyz", 7);
        fault("fill ; xyz;", 7);
        fault("fill ; xyz 1", 7);
        fault("fill ; xyz1", 7);
        fault("fill ; xyzX", 7);
        fault("fill ; xyz\0", 7);
        fault("z".repeat(120), 0);
        fault(" ".repeat(119) + "z", 119);
        fault(" ".repeat(116) + "fill", 120);
        fault(" ".repeat(116) + "filx", 116);
        fault(" ".repeat(117) + "fil", 117);
    }

    /** "each of one to six digits (zeros in front are allowed ..)" */
    private static void numbersHaveOneToSixDigits() {
        String[] sevens = {"7", "07", "007", "0007", "00007", "000007"};
        for (String seven : sevens) {
            SlownessImager x = typed("cell " + seven + " " + seven + ";");
            check.that("run() with " + seven, x.run(), 1);
            check.that("the cell with " + seven, x.cell(7, 0), 7);
        }
        SlownessImager y = typed("cell 000000 100000;cell 15 099999;");
        check.that("run() with six digits", y.run(), 2);
        check.that("the first cell", y.cell(0, 0), 100000);
        check.that("the last cell", y.cell(15, 0), 99999);
        answers("cell 0 999999;", 0);
        answers("cell 999999 1;", 0);
        answers("sweep 000000;", 0);
        answers("sweep 000020;", 1);
    }

    /** "a seventh digit cannot stand", be it a zero or not, in the first number or the second. */
    private static void seventhDigitsCannotStand() {
        fault("sweep 0000001;", 12);
        fault("sweep 0000000", 12);
        fault("sweep 1234567;", 12);
        fault("sweep 12345678901;", 12);
        fault("sweep 4294967297;", 12);
        fault("cell 0000000 1;", 11);
        fault("cell 0 0000001;", 13);
        fault("cell 000000 0000001;", 18);
        fault("cell 0 1000000;", 13);
        fault(" ".repeat(107) + "sweep 1234567", 119);
        fault(" ".repeat(108) + "sweep 123456", 120);
    }

    /** ".. and with at least one space (byte 32) in front": many may stand, none is a fault. */
    private static void numbersHaveASpaceInFront() {
        answers("cell 0 1;", 1);
        answers("cell   0     1;", 1);
        answers("cell" + " ".repeat(57) + "0" + " ".repeat(56) + "1;", 1);
        fault("cell0 1;", 4);
        fault("sweep1;", 5);
        fault("cell 0,1;", 6);
        fault("cell 0\t1;", 6);
        fault("cell\n0 1;", 4);
        fault("cell 0-1;", 6);
        fault("cell -1 1;", 5);
        fault("cell +1 1;", 5);
        fault("cell 1.0 1;", 6);
    }

    /** "Spaces may also stand in front of a command, in front of a semicolon, and at the end." */
    private static void spacesMayStand() {
        answers("   fill;", 1);
        answers("fill   ;", 1);
        answers("fill;   ", 1);
        answers("  fill  ;  fill  ;  ", 2);
        answers("  sweep  20  ;  cell  0  1  ;  ", 2);
        fault("fi ll;", 0);
        fault("sweep 2 0;", 8);
        fault("fill; ;", 6);
        fault(" ; ", 1);
    }

    /** Each byte of 0 to 127 behind a beginning: where it is at fault, or too soon, or where it stands. */
    private static void everyByte(String beginning, int letters, int digits, int space, int semicolon) {
        int length = beginning.length();
        for (int value = 0; value <= 127; value++) {
            int kind = length;
            if (value >= 'a' && value <= 'z') {
                kind = letters;
            } else if (value >= '0' && value <= '9') {
                kind = digits;
            } else if (value == ' ') {
                kind = space;
            } else if (value == ';') {
                kind = semicolon;
            }
            SlownessImager x = typed(beginning);
            x.type(value);
            int got = x.run();
            String what = "run() of '" + beginning + "' and byte " + value;
            if (kind == STANDS) {
                check.that(what + " has a fault", got < 0 ? 1 : 0, 0);
            } else {
                check.that(what, got, -10 - (kind == TOO_SOON ? length + 1 : kind));
            }
        }
    }

    /** "the index of the first byte that cannot stand at its place, or the length .. if it ends too soon." */
    private static void everyByteInFrontOfACommand() {
        everyByte("", 0, 0, STANDS, 0);
        everyByte("  ", 2, 2, STANDS, 2);
        everyByte("fill;", 5, 5, STANDS, 5);
        everyByte("fill; ", 6, 6, STANDS, 6);
    }

    private static void everyByteBehindAWord() {
        everyByte("fill", 0, 4, TOO_SOON, STANDS);
        everyByte("sweep", 0, 5, TOO_SOON, 5);
        everyByte("use", 0, 3, TOO_SOON, 3);
    }

    private static void everyByteBehindAnUnknownWord() {
        for (int value = 0; value <= 127; value++) {
            SlownessImager x = typed("  fil");
            x.type(value);
            check.that("'  fil' and byte " + value, x.run(), value == 'l' ? -16 : -12);
            SlownessImager y = typed("fill;fillz");
            y.type(value);
            check.that("'fill;fillz' and byte " + value, y.run(), -15);
        }
    }

    private static void everyByteBehindASpace() {
        everyByte("fill ", 5, 5, TOO_SOON, STANDS);
        everyByte("sweep ", 6, TOO_SOON, TOO_SOON, 6);
        everyByte("ray  ", 5, TOO_SOON, TOO_SOON, 5);
        everyByte("ray 1 ", 6, TOO_SOON, TOO_SOON, 6);
        everyByte("ray 1 2 ", 8, 8, TOO_SOON, STANDS);
        everyByte("sweep 1 ", 8, 8, TOO_SOON, STANDS);
    }

    private static void everyByteBehindADigit() {
        everyByte("sweep 1", 7, TOO_SOON, TOO_SOON, STANDS);
        everyByte("sweep 12345", 11, TOO_SOON, TOO_SOON, STANDS);
        everyByte("sweep 123456", 12, 12, TOO_SOON, STANDS);
        everyByte("ray 1", 5, TOO_SOON, TOO_SOON, 5);
        everyByte("ray 123456", 10, 10, TOO_SOON, 10);
        everyByte("ray 1 2", 7, TOO_SOON, TOO_SOON, STANDS);
        everyByte("ray 1 123456", 12, 12, TOO_SOON, STANDS);
    }

    // ---- promise 28: run

    /** "Returns .. -10 minus the fault if it has one.": the least one is 0, the greatest one is 120. */
    private static void runAnswersTheFault() {
        answers(";", -10);
        answers(" ;", -11);
        answers(" ".repeat(119) + ";", -129);
        answers(" ".repeat(114) + "sweep ", -130);
        answers("fill;".repeat(23) + "fill ", -130);
        answers("fill;".repeat(23) + "fill.", -129);
    }

    /** "if it has a fault, nothing is done", and no state is saved. */
    private static void runDoesNothingWithAFault() {
        SlownessImager x = typed("cell 0 5;true 0 5;ray 0 0;take 0;sweep 1;smooth 1;use 0 0;fill;;");
        check.harmless(x, "run()", -10 - 63, () -> x.run());
        check.badState(x, "undo()", () -> x.undo());
        check.that("the script stays", x.clearScript(), 64);
    }

    /** "Undoable, if it has no fault.": also without a command, and if the first one would throw. */
    private static void runSavesAStateWithoutAFault() {
        String[] texts = {"", "   ", "cell 16 1;", "fill;", "fill;fill;cell 0 0;"};
        for (String text : texts) {
            SlownessImager x = typed(text);
            x.run();
            check.that("undo() of '" + text + "'", x.undo(), 0);
            check.badState(x, "only one state", () -> x.undo());
        }
    }

    /** "A run saves one state, the one from before it; its commands save none.": the others stay. */
    private static void runSavesOneState() {
        SlownessImager x = typed("cell 0 11;".repeat(6) + "cell 0 12;".repeat(6));
        for (int slowness = 1; slowness <= 4; slowness++) {
            x.setCell(0, slowness);
        }
        check.that("run()", x.run(), 12);
        check.that("what it did", x.cell(0, 0), 12);
        long[] dues = {4, 3, 2, 1};
        for (int i = 0; i < 4; i++) {
            check.that("undo()", x.undo(), 3 - i);
            check.that("undone", x.cell(0, 0), dues[i]);
        }
        check.badState(x, "no state left", () -> x.undo());
    }

    /** "To run a script .. which stays as it is.": it runs again and again. */
    private static void runKeepsTheScript() {
        SlownessImager x = typed("ray 0 0;ray 3 3; ");
        for (int i = 1; i <= 8; i++) {
            check.that("run()", x.run(), 2);
            check.that("rays", x.section(2), 2 * i);
        }
        check.that("run() of a full section", x.run(), 0);
        check.that("clearScript()", x.clearScript(), 17);
    }

    /** "The script has at most 120 bytes.": the most commands, and a byte for each of 120 places. */
    private static void runOfTheLongestScripts() {
        answers("fill;".repeat(24), 24);
        answers("use 0 0;ray 0 0;".repeat(7), 0);
        answers("ray 0 0;" + "use 0 0;".repeat(14), 15);
        answers(" ".repeat(115) + "fill;", 1);
        answers("fill" + " ".repeat(115) + ";", 1);
        answers("fill;" + " ".repeat(115), 1);
        answers("sweep" + " ".repeat(113) + "1;", 1);
    }

    private static SlownessImager prepared() {
        SlownessImager x = new SlownessImager();
        x.begin(2, 3);
        x.slope(true, 700, 100, 50);
        x.addRay(0, 2);
        x.addRay(2, 1);
        x.observe(9, 9);
        return x;
    }

    /** "until one of them would throw an exception": those before it stay done, those behind it do not. */
    private static void stops(String command) {
        SlownessImager x = prepared();
        SlownessImager y = prepared();
        Check.type(x, "cell 0 5;" + command + "cell 1 6;");
        check.that("run() with '" + command + "'", x.run(), 1);
        x.clearScript();
        y.setCell(0, 5);
        check.that("digest with '" + command + "'", x.digest(), y.digest());
    }

    /** The command is carried out, as the call is. */
    private static void goesOn(String command, java.util.function.Consumer<SlownessImager> call) {
        SlownessImager x = prepared();
        SlownessImager y = prepared();
        Check.type(x, command);
        check.that("run() with '" + command + "'", x.run(), 1);
        x.clearScript();
        call.accept(y);
        check.that("digest with '" + command + "'", x.digest(), y.digest());
    }

    /** "ray s r (addRay(s, r))": three rows, and at most sixteen rays. */
    private static void runOfRay() {
        goesOn("ray 0 0;", x -> x.addRay(0, 0));
        goesOn("ray 2 2;", x -> x.addRay(2, 2));
        goesOn("ray 2 0;", x -> x.addRay(2, 0));
        stops("ray 3 0;");
        stops("ray 0 3;");
        stops("ray 999999 0;");
        stops("ray 0 999999;");
        SlownessImager x = prepared();
        Check.type(x, "ray 0 1;".repeat(15));
        check.that("up to sixteen rays", x.run(), 14);
        check.that("rays", x.section(2), 16);
        check.that("the last ray", x.ray(15, 1), 1);
        check.that("none further", x.run(), 0);
    }

    /** "cell c v (setCell(c, v))": six cells, 1 to 100000. */
    private static void runOfCell() {
        goesOn("cell 0 1;", x -> x.setCell(0, 1));
        goesOn("cell 5 100000;", x -> x.setCell(5, 100000));
        stops("cell 6 1;");
        stops("cell 999999 1;");
        stops("cell 0 0;");
        stops("cell 0 100001;");
        stops("cell 0 999999;");
    }

    /** "true c v (setTrue(c, v))": six cells, 1 to 100000. */
    private static void runOfTrue() {
        goesOn("true 0 1;", x -> x.setTrue(0, 1));
        goesOn("true 5 100000;", x -> x.setTrue(5, 100000));
        stops("true 6 1;");
        stops("true 999999 1;");
        stops("true 0 0;");
        stops("true 0 100001;");
        stops("true 0 999999;");
    }

    /** "take n (observe(0, 0) if n is 0, otherwise observe(n, n))": the width is at most 1000. */
    private static void runOfTake() {
        goesOn("take 0;", x -> x.observe(0, 0));
        goesOn("take 000000;", x -> x.observe(0, 0));
        goesOn("take 1;", x -> x.observe(1, 1));
        goesOn("take 999;", x -> x.observe(999, 999));
        goesOn("take 1000;", x -> x.observe(1000, 1000));
        stops("take 1001;");
        stops("take 999999;");
    }

    /** "sweep n": 1 to 20. */
    private static void runOfSweep() {
        goesOn("sweep 1;", x -> x.sweep(1));
        goesOn("sweep 20;", x -> x.sweep(20));
        stops("sweep 0;");
        stops("sweep 21;");
        stops("sweep 999999;");
    }

    /** "smooth k": 1 to 100. */
    private static void runOfSmooth() {
        goesOn("smooth 1;", x -> x.smooth(1));
        goesOn("smooth 100;", x -> x.smooth(100));
        stops("smooth 0;");
        stops("smooth 101;");
        stops("smooth 999999;");
        SlownessImager x = prepared();
        SlownessImager y = prepared();
        Check.type(x, "cell 0 9000;smooth 1;smooth 100;");
        check.that("run() of two", x.run(), 3);
        y.setCell(0, 9000);
        y.smooth(1);
        y.smooth(100);
        check.same("two", Check.slownesses(x), Check.slownesses(y));
    }

    /** "fill": it never throws, with rays or without. */
    private static void runOfFill() {
        answers("fill;", 1);
        goesOn("fill;", x -> x.fill());
        SlownessImager x = prepared();
        SlownessImager y = prepared();
        Check.type(x, "cell 1 50;cell 2 5000;fill;");
        check.that("run()", x.run(), 3);
        y.setCell(1, 50);
        y.setCell(2, 5000);
        check.that("fill() changes some", y.fill() > 0 ? 1 : 0, 1);
        check.same("fill", Check.slownesses(x), Check.slownesses(y));
    }

    /** "use r n (setUsed(r, n is not 0))": two rays. */
    private static void runOfUse() {
        goesOn("use 0 0;", x -> x.setUsed(0, false));
        goesOn("use 1 000000;", x -> x.setUsed(1, false));
        goesOn("use 1 1;", x -> x.setUsed(1, true));
        stops("use 2 0;");
        stops("use 2 1;");
        stops("use 999999 1;");
        String[] trues = {"1", "2", "999999", "000001", "100000", "256", "65536"};
        for (String number : trues) {
            SlownessImager x = prepared();
            x.setUsed(1, false);
            Check.type(x, "use 1 " + number + ";");
            check.that("run() with " + number, x.run(), 1);
            check.that("used with " + number, x.ray(1, 2), 1);
        }
    }

    /** Commands look at what those before them have done. */
    private static void commandsSeeThoseBefore() {
        SlownessImager x = typed("use 0 0;");
        check.that("a ray that is not there", x.run(), 0);
        Check.type(x, "ray 3 3;use 0 0;take 5;sweep 20;use 0 1;sweep 1;");
        check.that("one that is", x.run(), 6);
        check.that("active", x.section(3), 1);
        x.undo();
        check.that("all of it undone", x.section(2), 0);
    }
}
