import java.io.IOException;
import java.nio.file.Files;
import java.nio.file.Path;
import java.util.ArrayList;
import java.util.List;
import java.util.Set;
import java.util.TreeSet;
import java.util.regex.Matcher;
import java.util.regex.Pattern;
import java.util.stream.Stream;

/**
 * What README.md says is tried as it stands there: its commands, what they print, the program that it
 * shows, and the files and tests that it names. It runs from the project's own directory.
 */
final class ReadmeTest {
    private static final Path README = Path.of("README.md");
    private static final Path TESTS = Path.of("src/test/java");
    /** It runs this test, so it is not given from here. */
    private static final String RUN_ALL = "bash .ci/run\n";
    private static final Pattern QUOTED = Pattern.compile("`([^`\n]+)`");

    private static int right;
    private static int wrong;

    /** A piece of README.md between two lines of three signs each. */
    private record Block(String kind, String text) {
    }

    public static void main(String[] args) throws Exception {
        List<Block> blocks = new ArrayList<>();
        String prose = read(blocks);
        programs(blocks);
        commands(blocks);
        testsAreNamed(prose);
        filesAreThere(prose);
        methodsAreThere(prose);
        System.out.println("ReadmeTest: " + right + " right, " + wrong + " wrong");
        if (wrong != 0) {
            System.exit(1);
        }
    }

    /** Puts the blocks into the list; answers what stands between them. */
    private static String read(List<Block> blocks) throws IOException {
        StringBuilder prose = new StringBuilder();
        String kind = null;
        StringBuilder text = new StringBuilder();
        for (String line : Files.readAllLines(README)) {
            if (!line.startsWith("```")) {
                (kind == null ? prose : text).append(line).append('\n');
            } else if (kind == null) {
                kind = line.substring(3);
                text.setLength(0);
            } else {
                blocks.add(new Block(kind, text.toString()));
                kind = null;
            }
        }
        check("the last block has an end", kind == null);
        return prose.toString();
    }

    private static void programs(List<Block> blocks) throws IOException {
        String tour = Files.readString(Path.of("examples/Tour.java"));
        check("it shows examples/Tour.java", blocks.contains(new Block("java", tour)));
    }

    private static void commands(List<Block> blocks) throws Exception {
        check("it tells how to run all tests", blocks.contains(new Block("sh", RUN_ALL)));
        check(".ci/run can be run", Files.isExecutable(Path.of(".ci/run")));
        for (int i = 0; i < blocks.size(); i++) {
            Block block = blocks.get(i);
            if (block.kind().equals("sh") && !block.text().equals(RUN_ALL) && sharedFilesAreThere(block.text())) {
                String printed = give(block.text());
                boolean isShown = i + 1 < blocks.size() && blocks.get(i + 1).kind().equals("text");
                if (isShown && !printed.equals(blocks.get(i + 1).text())) {
                    check("it prints what is shown, not:\n" + printed, false);
                }
            }
        }
    }

    /** The shared tests are not the project's own: they may have other names one day. */
    private static boolean sharedFilesAreThere(String commands) {
        for (String word : commands.split("\\s+")) {
            if (word.startsWith("../shared/") && !Files.exists(Path.of(word))) {
                return false;
            }
        }
        return true;
    }

    private static String give(String commands) throws Exception {
        Process process = new ProcessBuilder("bash", "-e", "-c", commands).redirectErrorStream(true).start();
        String printed = new String(process.getInputStream().readAllBytes());
        int code = process.waitFor();
        check("the commands\n" + commands + "end with code " + code + " and print\n" + printed, code == 0);
        return printed;
    }

    /** Each test is named, and each test that is named is there. */
    private static void testsAreNamed(String prose) throws IOException {
        Set<String> there = new TreeSet<>();
        try (Stream<Path> files = Files.list(TESTS)) {
            files.map(file -> file.getFileName().toString()).filter(name -> name.endsWith("Test.java"))
                    .forEach(name -> there.add(name.substring(0, name.length() - 5)));
        }
        Set<String> named = new TreeSet<>();
        Matcher matcher = Pattern.compile("`(\\w+Test)`").matcher(prose);
        while (matcher.find()) {
            named.add(matcher.group(1));
        }
        check("it names the tests " + there + ", and not " + named, named.equals(there));
    }

    private static void filesAreThere(String prose) {
        Matcher matcher = QUOTED.matcher(prose);
        while (matcher.find()) {
            String name = matcher.group(1);
            boolean isFile = name.contains("/") && !name.contains("*") && !name.contains(" ") && !name.equals("build/");
            if (isFile) {
                check(name + " is there", Files.exists(Path.of(name)));
            }
        }
    }

    /** Each method of the class is named. */
    private static void methodsAreThere(String prose) {
        Set<String> named = new TreeSet<>();
        Matcher matcher = QUOTED.matcher(prose);
        while (matcher.find()) {
            named.add(matcher.group(1).replaceAll("\\(.*", ""));
        }
        for (var method : SlownessImager.class.getMethods()) {
            if (method.getDeclaringClass() == SlownessImager.class) {
                check("it names " + method.getName(), named.contains(method.getName()));
            }
        }
    }

    private static void check(String what, boolean isSo) {
        if (isSo) {
            right++;
        } else {
            wrong++;
            System.out.println("ReadmeTest, wrong: " + what);
        }
    }
}
