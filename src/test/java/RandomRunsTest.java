import java.lang.reflect.InvocationTargetException;
import java.lang.reflect.Method;
import java.util.ArrayList;
import java.util.List;
import java.util.Random;

/**
 * Every promise once more: long runs of calls drawn at random (always the same ones), each answered
 * by the imager and by the Reference, whose answers and exceptions must be the same.
 */
final class RandomRunsTest {
    private static final int RUNS = 160;
    /** A digest comes after them, as the last of the 512 calls that the document speaks of. */
    private static final int CALLS = 511;
    private static final String[] WORDS = {"ray", "cell", "true", "take", "sweep", "smooth", "fill", "use"};
    private static final String[] NAMES = {
        "begin", "setCell", "setCell", "setCell", "setTrue", "setTrue", "slope", "slope", "setBounds", "addRay",
        "addRay", "addRay", "setUsed", "setUsed", "setTime", "setTime", "observe", "observe", "setOrder",
        "setOrder", "correct", "correct", "correct", "sweep", "sweep", "smooth", "fill", "fill", "ray", "time",
        "residual", "wayCell", "length", "least", "cell", "section", "fit", "whatIf", "run", "run", "undo",
        "undo", "digest"};

    private final Random random;
    private final SlownessImager imager = new SlownessImager();
    private final Reference reference = new Reference();
    private final List<String> told = new ArrayList<>();
    private int calls;
    private boolean isWrong;

    private RandomRunsTest(long seed) {
        random = new Random(seed);
    }

    public static void main(String[] args) {
        int wrong = 0;
        long calls = 0;
        for (int run = 0; run < RUNS && wrong < 3; run++) {
            RandomRunsTest test = new RandomRunsTest(run);
            test.goThrough();
            calls += test.calls;
            if (test.isWrong) {
                wrong++;
                System.out.println("run " + run + ":");
                test.told.forEach(System.out::println);
            }
        }
        System.out.println("RandomRunsTest: " + calls + " calls, " + wrong + " runs wrong");
        if (wrong != 0) {
            System.exit(1);
        }
    }

    private void goThrough() {
        boolean isCrowded = random.nextBoolean();
        while (calls < CALLS && !isWrong) {
            String name = NAMES[random.nextInt(NAMES.length)];
            if (name.equals("begin") && random.nextInt(3) > 0) {
                continue;
            }
            if (name.equals("begin") && isCrowded && calls > 0) {
                name = "addRay";
            }
            if (name.equals("run") && calls < CALLS - 2 && random.nextBoolean()) {
                typeScript();
            }
            call(name, arguments(name));
        }
        if (!isWrong) {
            call("digest");
        }
    }

    private void typeScript() {
        call("clearScript");
        String script = script();
        for (int i = 0; i < script.length() && calls < CALLS - 1 && !isWrong; i++) {
            call("type", (int) script.charAt(i));
        }
    }

    private void call(String name, Object... arguments) {
        calls++;
        String due = answer(reference, Reference.class, name, arguments);
        String got = answer(imager, SlownessImager.class, name, arguments);
        StringBuilder line = new StringBuilder("  ").append(name);
        for (Object argument : arguments) {
            line.append(' ').append(argument);
        }
        line.append(" = ").append(got);
        if (!got.equals(due)) {
            line.append(", due is ").append(due);
            isWrong = true;
        }
        told.add(line.toString());
    }

    private static String answer(Object target, Class<?> type, String name, Object[] arguments) {
        for (Method method : type.getDeclaredMethods()) {
            if (method.getName().equals(name)) {
                try {
                    return String.valueOf(method.invoke(target, arguments));
                } catch (InvocationTargetException e) {
                    return e.getCause().getClass().getSimpleName();
                } catch (IllegalAccessException e) {
                    return "no access";
                }
            }
        }
        return "no method";
    }

    // ---- arguments, mostly in their ranges, now and then at or beyond an edge

    private int within(int least, int most) {
        switch (random.nextInt(40)) {
            case 0:
                return least - 1;
            case 1:
                return most + 1;
            case 2:
                return least;
            case 3:
                return most;
            default:
                return least + random.nextInt(most - least + 1);
        }
    }

    private int slowness() {
        return random.nextInt(4) == 0 ? within(1, 100000) : within(500, 4000);
    }

    private int cell() {
        return within(0, reference.section(0) * reference.section(1) - 1);
    }

    private int row() {
        return within(0, reference.section(1) - 1);
    }

    private int ray() {
        int count = reference.section(2);
        return count == 0 ? random.nextInt(3) - 1 : within(0, count - 1);
    }

    private long time(int ray) {
        int kind = random.nextInt(10);
        if (kind == 0) {
            return -1;
        }
        if (kind == 1) {
            return random.nextBoolean() ? 100000000000L + random.nextInt(2) : -random.nextInt(3);
        }
        if (kind == 2 || ray < 0 || ray >= reference.section(2)) {
            return random.nextInt(2000000000);
        }
        return reference.time(ray, 0) + random.nextInt(4000001) - 2000000;
    }

    private Object[] arguments(String name) {
        switch (name) {
            case "begin":
                return new Object[] {within(2, 8), within(2, 8)};
            case "setCell":
            case "setTrue":
                return new Object[] {cell(), slowness()};
            case "slope":
                return new Object[] {random.nextBoolean(), slowness(), incline(), incline()};
            case "setBounds":
                return random.nextBoolean() ? new Object[] {1, 100000} : new Object[] {within(1, 1200), within(900, 100000)};
            case "addRay":
                return new Object[] {row(), row()};
            case "setUsed":
                return new Object[] {ray(), random.nextInt(4) > 0};
            case "setTime":
                int ray = ray();
                return new Object[] {ray, time(ray)};
            case "observe":
                return new Object[] {random.nextInt(3) == 0 ? 0 : within(0, 1000), within(0, 999999)};
            case "setOrder":
                return new Object[] {within(1, 2000), within(0, 3), within(0, 999999)};
            case "sweep":
                return new Object[] {random.nextInt(4) == 0 ? within(1, 20) : within(1, 3)};
            case "smooth":
                return new Object[] {within(1, 100)};
            default:
                return questions(name);
        }
    }

    private int incline() {
        return random.nextInt(4) == 0 ? within(-10000, 10000) : within(-200, 200);
    }

    private Object[] questions(String name) {
        switch (name) {
            case "correct":
            case "residual":
                return new Object[] {ray()};
            case "ray":
                return new Object[] {ray(), within(0, 4)};
            case "time":
                return new Object[] {ray(), within(0, 1)};
            case "wayCell":
                return new Object[] {ray(), within(0, 9)};
            case "length":
                return new Object[] {ray(), cell()};
            case "least":
                return new Object[] {cell(), cell(), random.nextBoolean()};
            case "cell":
                return new Object[] {cell(), within(0, 3)};
            case "section":
                return new Object[] {within(0, 8)};
            case "fit":
                return new Object[] {within(0, 4)};
            case "whatIf":
                return new Object[] {ray(), cell(), slowness()};
            default:
                return new Object[0];
        }
    }

    // ---- scripts

    private String script() {
        StringBuilder text = new StringBuilder();
        int commands = random.nextInt(6);
        for (int i = 0; i < commands; i++) {
            spaces(text, 0);
            command(text, WORDS[random.nextInt(WORDS.length)]);
        }
        spaces(text, 0);
        if (random.nextInt(3) == 0 && text.length() > 0) {
            spoil(text);
        }
        return text.substring(0, Math.min(text.length(), 121));
    }

    private void spaces(StringBuilder text, int least) {
        int count = random.nextInt(5) == 0 ? least + random.nextInt(3) : least;
        text.append(" ".repeat(count));
    }

    private void command(StringBuilder text, String word) {
        text.append(word);
        switch (word) {
            case "ray":
                number(text, row());
                number(text, row());
                break;
            case "cell":
            case "true":
                number(text, cell());
                number(text, slowness());
                break;
            case "use":
                number(text, ray());
                number(text, random.nextInt(3));
                break;
            case "take":
                number(text, random.nextInt(2) * within(0, 1000));
                break;
            case "sweep":
                number(text, within(1, 20));
                break;
            case "smooth":
                number(text, within(1, 100));
                break;
            default:
                break;
        }
        spaces(text, 0);
        text.append(';');
    }

    private void number(StringBuilder text, int value) {
        spaces(text, 1);
        if (random.nextInt(6) == 0) {
            text.append("0".repeat(random.nextInt(6)));
        }
        text.append(Math.max(value, 0));
    }

    private void spoil(StringBuilder text) {
        int place = random.nextInt(text.length());
        String signs = " ;;019azfirs\0A~";
        char sign = signs.charAt(random.nextInt(signs.length()));
        switch (random.nextInt(4)) {
            case 0:
                text.setCharAt(place, sign);
                break;
            case 1:
                text.insert(place, sign);
                break;
            case 2:
                text.deleteCharAt(place);
                break;
            default:
                text.setLength(place);
                break;
        }
    }
}
