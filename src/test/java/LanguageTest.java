import java.io.IOException;
import java.nio.file.Files;
import java.nio.file.Path;
import java.util.List;
import java.util.regex.Matcher;
import java.util.regex.Pattern;

/**
 * What a search of the text can tell of the rules of LANGUAGE.md: words that must not stand in the
 * class, the library that it may call, and the lengths of its methods. It runs from the project's
 * own directory.
 */
final class LanguageTest {
    private static final Path FILE = Path.of("src/main/java/SlownessImager.java");
    private static final int LONGEST_METHOD = 60;
    private static final String[] RULED_OUT = {
        "->", "::", "\\bcatch\\b", "\\btry\\b", "\\bfinally\\b", "\\bsynchronized\\b", "\\bassert\\b",
        "\\binstanceof\\b", "\\bdouble\\b", "\\bfloat\\b", "\\bpackage\\b", "\\bprotected\\b", "\\bvar\\b",
        "\\brecord\\b", "Exact\\(", "\\bThread\\b", "\\bRandom\\b", "\\bnanoTime\\b", "\\bcurrentTimeMillis\\b"};
    private static final Pattern CALLED = Pattern.compile("\\b(System|Math|Arrays|Integer|Long)\\.(\\w+)");
    private static final List<String> LIBRARY = List.of(
            "System.arraycopy", "Math.abs", "Math.max", "Math.min", "Math.floorDiv", "Arrays.fill");

    private static int wrong;

    public static void main(String[] args) throws IOException {
        List<String> lines = Files.readAllLines(FILE);
        int start = 0;
        for (int i = 0; i < lines.size(); i++) {
            String line = lines.get(i);
            String code = line.strip().startsWith("*") || line.strip().startsWith("/") ? "" : line;
            words(i + 1, code);
            if (code.matches(" {4,8}[^ ].*\\) ?.*\\{")) {
                start = i;
            }
            if (code.matches(" {4,8}\\}") && i - start > LONGEST_METHOD) {
                tell(i + 1, "the method is longer than " + LONGEST_METHOD + " lines");
            }
            if (code.matches(" {4,8}\\}")) {
                start = i;
            }
        }
        System.out.println("LanguageTest: " + lines.size() + " lines, " + wrong + " wrong");
        if (wrong != 0) {
            System.exit(1);
        }
    }

    private static void words(int number, String code) {
        for (String word : RULED_OUT) {
            if (Pattern.compile(word).matcher(code).find()) {
                tell(number, "ruled out: " + word);
            }
        }
        if (code.startsWith("import ") && !code.equals("import java.util.Arrays;")) {
            tell(number, "an import that is not needed: " + code);
        }
        Matcher matcher = CALLED.matcher(code);
        while (matcher.find()) {
            String name = matcher.group();
            if (!LIBRARY.contains(name) && !code.startsWith("import ") && !name.startsWith("Integer.M")) {
                tell(number, "not in the library: " + name);
            }
        }
        if (!code.chars().allMatch(sign -> sign >= 32 && sign < 127)) {
            tell(number, "a sign that is not plain");
        }
    }

    private static void tell(int number, String what) {
        wrong++;
        System.out.println(FILE + ":" + number + ": " + what);
    }
}
