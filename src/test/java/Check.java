import java.util.Arrays;

/** Counts answers that are due, prints those that are not, and knows some common questions. */
final class Check {
    private final String name;
    private int right;
    private int wrong;

    Check(String name) {
        this.name = name;
    }

    interface Call {
        long answer();
    }

    void that(String what, long got, long due) {
        note(got == due, what + " answered " + got + ", due is " + due);
    }

    void same(String what, long[] got, long[] due) {
        note(Arrays.equals(got, due),
                what + " is " + Arrays.toString(got) + ", due is " + Arrays.toString(due));
    }

    private void note(boolean isRight, String what) {
        if (isRight) {
            right++;
        } else {
            wrong++;
            System.out.println(name + ": " + what);
        }
    }

    private void refuses(SlownessImager imager, String due, String what, Call call) {
        long before = imager.digest();
        String got;
        try {
            got = "nothing, answered " + call.answer();
        } catch (RuntimeException e) {
            got = e.getClass().getSimpleName();
        }
        note(got.equals(due), what + " threw " + got + ", due is " + due);
        that(what + ": a refused call changes nothing, the digest", imager.digest(), before);
    }

    void badIndex(SlownessImager imager, String what, Call call) {
        refuses(imager, "IndexOutOfBoundsException", what, call);
    }

    void badArgument(SlownessImager imager, String what, Call call) {
        refuses(imager, "IllegalArgumentException", what, call);
    }

    void badState(SlownessImager imager, String what, Call call) {
        refuses(imager, "IllegalStateException", what, call);
    }

    /**
     * The call gives the answer, saves one state, and undo brings back all that it changed: the
     * digest counts the saved states too. A full stack lost its oldest state to the call, so there
     * a call that changes nothing fills it up again.
     */
    void undoable(SlownessImager imager, String what, long due, Call call) {
        long before = imager.digest();
        that(what, call.answer(), due);
        int left = imager.undo();
        if (left == 3 && imager.digest() != before) {
            imager.setBounds(imager.section(5), imager.section(6));
        }
        that(what + ": undone, the digest", imager.digest(), before);
        that(what + ", once more", call.answer(), due);
    }

    /** The call gives the answer, saves no state and changes nothing. */
    void harmless(SlownessImager imager, String what, long due, Call call) {
        long before = imager.digest();
        that(what, call.answer(), due);
        that(what + ": changes nothing, the digest", imager.digest(), before);
    }

    static long[] slownesses(SlownessImager imager) {
        return cells(imager, 0);
    }

    static long[] cells(SlownessImager imager, int what) {
        long[] values = new long[imager.section(0) * imager.section(1)];
        for (int cell = 0; cell < values.length; cell++) {
            values[cell] = imager.cell(cell, what);
        }
        return values;
    }

    static long[] way(SlownessImager imager, int ray) {
        long[] cells = new long[imager.ray(ray, 4)];
        for (int i = 0; i < cells.length; i++) {
            cells[i] = imager.wayCell(ray, i);
        }
        return cells;
    }

    static long[] list(long... values) {
        return values;
    }

    static void type(SlownessImager imager, String text) {
        imager.clearScript();
        for (int i = 0; i < text.length(); i++) {
            imager.type(text.charAt(i));
        }
    }

    void end() {
        System.out.println(name + ": " + right + " right, " + wrong + " wrong");
        if (wrong != 0) {
            System.exit(1);
        }
    }
}
