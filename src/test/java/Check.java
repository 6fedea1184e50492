import java.lang.reflect.InvocationTargetException;
import java.lang.reflect.Method;
import java.lang.reflect.Modifier;
import java.util.Arrays;
import java.util.Comparator;

/** Counts answers that are due, prints those that are not, and knows some common questions. */
final class Check {
    static final long MOST_TIME = 100000000000L;

    private final String name;
    private String part = "";
    private int right;
    private int wrong;

    Check(String name) {
        this.name = name;
    }

    interface Call {
        long answer();
    }

    interface NumberCall {
        long answer(int number);
    }

    /**
     * Runs every test of a class: each static method without arguments and answer, in the order of
     * their names, so that none can be forgotten. A test that throws is a wrong answer.
     */
    void runAll(Class<?> tests) {
        Method[] methods = tests.getDeclaredMethods();
        Arrays.sort(methods, Comparator.comparing(Method::getName));
        for (Method method : methods) {
            if (Modifier.isStatic(method.getModifiers()) && !method.isSynthetic()
                    && method.getParameterCount() == 0 && method.getReturnType() == void.class) {
                method.setAccessible(true);
                part = "." + method.getName();
                runOne(method);
            }
        }
        part = "";
    }

    private void runOne(Method method) {
        try {
            method.invoke(null);
        } catch (InvocationTargetException e) {
            note(false, "threw " + e.getCause() + " at " + Arrays.toString(e.getCause().getStackTrace()));
        } catch (IllegalAccessException e) {
            note(false, "could not be run");
        }
    }

    void that(String what, long got, long due) {
        note(got == due, what + " answered " + got + ", due is " + due);
    }

    void same(String what, long[] got, long[] due) {
        note(Arrays.equals(got, due),
                what + " is " + Arrays.toString(got) + ", due is " + Arrays.toString(due));
    }

    private void note(boolean isRight, String what) {
        if (isRight) {
            right++;
        } else {
            wrong++;
            System.out.println(name + part + ": " + what);
        }
    }

    private void refuses(SlownessImager imager, String due, String what, Call call) {
        long before = imager.digest();
        String got;
        try {
            got = "nothing, answered " + call.answer();
        } catch (RuntimeException e) {
            got = e.getClass().getSimpleName();
        }
        note(got.equals(due), what + " threw " + got + ", due is " + due);
        that(what + ": a refused call changes nothing, the digest", imager.digest(), before);
    }

    void badIndex(SlownessImager imager, String what, Call call) {
        refuses(imager, "IndexOutOfBoundsException", what, call);
    }

    void badArgument(SlownessImager imager, String what, Call call) {
        refuses(imager, "IllegalArgumentException", what, call);
    }

    void badState(SlownessImager imager, String what, Call call) {
        refuses(imager, "IllegalStateException", what, call);
    }

    /** An argument that leads to the exception is refused next to its range and far away from it. */
    void badIndexes(SlownessImager imager, String what, int least, int most, NumberCall call) {
        refusesAround(imager, "IndexOutOfBoundsException", what, least, most, call);
    }

    void badArguments(SlownessImager imager, String what, int least, int most, NumberCall call) {
        refusesAround(imager, "IllegalArgumentException", what, least, most, call);
    }

    /** The last numbers would come into the range, or near it, if only their lower bits were looked at. */
    private void refusesAround(
            SlownessImager imager, String due, String what, int least, int most, NumberCall call) {
        long[] numbers = {least - 1L, most + 1L, Integer.MIN_VALUE, Integer.MAX_VALUE,
            least + 256L, least + 65536L, least - 65536L};
        for (long number : numbers) {
            if (number < least || number > most) {
                refuses(imager, due, what + " of " + number, () -> call.answer((int) number));
            }
        }
    }

    /**
     * The call gives the answer, saves one state, and undo brings back all that it changed: the
     * digest counts the saved states too. A full stack lost its oldest state to the call, so there
     * a call that changes nothing fills it up again.
     */
    void undoable(SlownessImager imager, String what, long due, Call call) {
        long before = imager.digest();
        that(what, call.answer(), due);
        int left = imager.undo();
        if (left == 3 && imager.digest() != before) {
            imager.setBounds(imager.section(5), imager.section(6));
        }
        that(what + ": undone, the digest", imager.digest(), before);
        that(what + ", once more", call.answer(), due);
    }

    /** The call gives the answer, saves no state and changes nothing. */
    void harmless(SlownessImager imager, String what, long due, Call call) {
        long before = imager.digest();
        that(what, call.answer(), due);
        that(what + ": changes nothing, the digest", imager.digest(), before);
    }

    static long[] slownesses(SlownessImager imager) {
        return cells(imager, 0);
    }

    static long[] cells(SlownessImager imager, int what) {
        long[] values = new long[imager.section(0) * imager.section(1)];
        for (int cell = 0; cell < values.length; cell++) {
            values[cell] = imager.cell(cell, what);
        }
        return values;
    }

    static long[] way(SlownessImager imager, int ray) {
        long[] cells = new long[imager.ray(ray, 4)];
        for (int i = 0; i < cells.length; i++) {
            cells[i] = imager.wayCell(ray, i);
        }
        return cells;
    }

    /** The digest without the number of saved states, which is the first of its values. */
    static long stateHash(SlownessImager imager, int saved) {
        int behind = 11 + 4 * imager.section(0) * imager.section(1) + 5;
        for (int ray = 0; ray < imager.section(2); ray++) {
            behind += 7 + imager.ray(ray, 4);
        }
        long weight = 1;
        for (int i = 0; i < behind; i++) {
            weight *= 31;
        }
        return imager.digest() - saved * weight;
    }

    static long[] list(long... values) {
        return values;
    }

    static void type(SlownessImager imager, String text) {
        imager.clearScript();
        for (int i = 0; i < text.length(); i++) {
            imager.type(text.charAt(i));
        }
    }

    void end() {
        System.out.println(name + ": " + right + " right, " + wrong + " wrong");
        if (wrong != 0) {
            System.exit(1);
        }
    }
}
