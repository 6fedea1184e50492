import java.io.IOException;
import java.lang.reflect.Executable;
import java.lang.reflect.Field;
import java.lang.reflect.Method;
import java.lang.reflect.Modifier;
import java.nio.file.Files;
import java.nio.file.Path;
import java.util.ArrayList;
import java.util.Arrays;
import java.util.List;
import java.util.Set;
import java.util.TreeSet;
import java.util.regex.Matcher;
import java.util.regex.Pattern;

/**
 * What a search of the text can tell of the rules of LANGUAGE.md: words that must not stand in the
 * class, the library that it may call, and the lengths of its methods; and what the classes tell of
 * themselves: their number, names, fields and parameters. It runs from the project's own directory.
 */
final class LanguageTest {
    private static final Path FILE = Path.of("src/main/java/SlownessImager.java");
    private static final int LONGEST_METHOD = 60;
    private static final int MOST_CLASSES = 12;
    private static final int MOST_FIELDS = 20;
    private static final int MOST_PARAMETERS = 7;
    private static final String[] RULED_OUT = {
        "->", "::", "\\bcatch\\b", "\\btry\\b", "\\bfinally\\b", "\\bsynchronized\\b", "\\bassert\\b",
        "\\binstanceof\\b", "\\bdouble\\b", "\\bfloat\\b", "\\bpackage\\b", "\\bprotected\\b", "\\bvar\\b",
        "\\brecord\\b", "Exact\\(", "\\bThread\\b", "\\bRandom\\b", "\\bnanoTime\\b", "\\bcurrentTimeMillis\\b",
        "\" \\+", "\\+ \"", "\\bequals\\(Object", "\\bhashCode\\b", "\\btoString\\b", "static \\{"};
    private static final Pattern CALLED = Pattern.compile("\\b(System|Math|Arrays|Integer|Long)\\.(\\w+)");
    private static final List<String> LIBRARY = List.of(
            "System.arraycopy", "Math.abs", "Math.max", "Math.min", "Math.floorDiv", "Arrays.fill");

    private static int wrong;

    public static void main(String[] args) throws IOException {
        List<String> lines = Files.readAllLines(FILE);
        int start = 0;
        for (int i = 0; i < lines.size(); i++) {
            String line = lines.get(i);
            String code = line.strip().startsWith("*") || line.strip().startsWith("/") ? "" : line;
            words(i + 1, code);
            if (code.matches(" {4,8}[^ ].*\\) ?.*\\{")) {
                start = i;
            }
            if (code.matches(" {4,8}\\}") && i - start > LONGEST_METHOD) {
                tell(i + 1, "the method is longer than " + LONGEST_METHOD + " lines");
            }
            if (code.matches(" {4,8}\\}")) {
                start = i;
            }
        }
        classes();
        System.out.println("LanguageTest: " + lines.size() + " lines, " + wrong + " wrong");
        if (wrong != 0) {
            System.exit(1);
        }
    }

    private static void words(int number, String code) {
        for (String word : RULED_OUT) {
            if (Pattern.compile(word).matcher(code).find()) {
                tell(number, "ruled out: " + word);
            }
        }
        if (code.startsWith("import ") && !code.equals("import java.util.Arrays;")) {
            tell(number, "an import that is not needed: " + code);
        }
        Matcher matcher = CALLED.matcher(code);
        while (matcher.find()) {
            String name = matcher.group();
            if (!LIBRARY.contains(name) && !code.startsWith("import ") && !name.startsWith("Integer.M")) {
                tell(number, "not in the library: " + name);
            }
        }
        if (!code.chars().allMatch(sign -> sign >= 32 && sign < 127)) {
            tell(number, "a sign that is not plain");
        }
    }

    private static void classes() {
        List<Class<?>> all = new ArrayList<>(List.of(SlownessImager.class));
        all.addAll(List.of(SlownessImager.class.getDeclaredClasses()));
        if (all.size() > MOST_CLASSES) {
            tell("more than " + MOST_CLASSES + " classes");
        }
        Set<String> face = new TreeSet<>();
        for (Method method : SlownessImager.class.getMethods()) {
            face.add(method.getName());
        }
        for (Class<?> type : all) {
            if (type != SlownessImager.class) {
                insideClass(type, face);
            }
            fields(type);
            List<Executable> calls = new ArrayList<>(Arrays.asList(type.getDeclaredMethods()));
            calls.addAll(Arrays.asList(type.getDeclaredConstructors()));
            for (Executable call : calls) {
                if (call.getParameterCount() > MOST_PARAMETERS) {
                    tell("more than " + MOST_PARAMETERS + " parameters: " + call);
                }
            }
        }
    }

    private static void insideClass(Class<?> type, Set<String> face) {
        int modifiers = type.getModifiers();
        if (!Modifier.isStatic(modifiers) || Modifier.isPublic(modifiers) || Modifier.isProtected(modifiers)) {
            tell("not private and static: " + type);
        }
        for (Method method : type.getDeclaredMethods()) {
            if (face.contains(method.getName())) {
                tell("the name of a public method: " + method);
            }
        }
    }

    private static void fields(Class<?> type) {
        int count = 0;
        for (Field field : type.getDeclaredFields()) {
            boolean isStatic = Modifier.isStatic(field.getModifiers());
            count += isStatic ? 0 : 1;
            if (isStatic && !Modifier.isFinal(field.getModifiers())) {
                tell("static, but not final: " + field);
            }
        }
        if (count > MOST_FIELDS) {
            tell("more than " + MOST_FIELDS + " fields: " + type);
        }
    }

    private static void tell(String what) {
        wrong++;
        System.out.println(FILE + ": " + what);
    }

    private static void tell(int number, String what) {
        wrong++;
        System.out.println(FILE + ":" + number + ": " + what);
    }
}
