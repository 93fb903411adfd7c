import java.io.IOException;
import java.lang.reflect.Method;
import java.nio.file.Files;
import java.nio.file.Path;
import java.util.ArrayList;
import java.util.Comparator;
import java.util.List;
import java.util.regex.Matcher;
import java.util.regex.Pattern;
import java.util.stream.Collectors;
import java.util.stream.Stream;

/**
 * What README.md shows holds when it is run: its Java, each call with what stands behind it, and its commands, in a copy
 * of the checkout. It leaves out no call of the face and no test of the project.
 */
public final class ReadmeTest {
    private static final Pattern BLOCK = Pattern.compile("```(\\w+)\n(.*?)```", Pattern.DOTALL);

    /** A call, and behind it what it answers or throws; more words may follow. */
    private static final Pattern CALL = Pattern.compile("(.*\\));\\s*// (-?\\d+|true|false|\\w+Exception)\\b.*");
    private static final Pattern WITHOUT_ANSWER = Pattern.compile("LabyrinthGarden x = new LabyrinthGarden\\(\\);|x\\.anew\\(\\);");

    /** It runs every test, this one too: a command of README.md that this test can't make. */
    private static final String ALL_TESTS = ".ci/run";

    private static int wrong = 0;

    public static void main(String[] args) throws Exception {
        String readme = Files.readString(Path.of("README.md"));
        Path copy = Files.createTempDirectory("readme");
        try {
            copyCheckout(copy);
            checkExamples(readme, copy);
            checkCommands(readme, copy);
        } finally {
            delete(copy);
        }
        checkNothingIsLeftOut(readme);
        System.out.println(wrong == 0 ? "README.md holds" : wrong + " things in README.md do not hold");
        if (wrong != 0) {
            System.exit(1);
        }
    }

    private static void need(boolean holds, String what) {
        if (!holds) {
            wrong++;
            System.out.println("not so: " + what);
        }
    }

    private static List<String> blocks(String readme, String language) {
        List<String> found = new ArrayList<>();
        Matcher matcher = BLOCK.matcher(readme);
        while (matcher.find()) {
            if (matcher.group(1).equals(language)) {
                found.add(matcher.group(2));
            }
        }
        return found;
    }

    private static void checkExamples(String readme, Path copy) throws Exception {
        StringBuilder methods = new StringBuilder();
        StringBuilder calls = new StringBuilder();
        int answers = 0;
        for (String block : blocks(readme, "java")) {
            if (block.startsWith("static ")) {
                methods.append(block);
                continue;
            }
            for (String line : block.split("\n")) {
                Matcher call = CALL.matcher(line);
                if (call.matches()) {
                    answers++;
                    calls.append(checked(call.group(1), call.group(2)));
                } else {
                    need(WITHOUT_ANSWER.matcher(line).matches(), "an example tells what is answered: " + line);
                    calls.append(line).append('\n');
                }
            }
        }
        need(answers > 50, "there are examples, not " + answers);
        String program = "public final class Examples {\nstatic int wrong = 0;\n" + methods
            + "static void due(String call, String got, String want) { if (!got.equals(want)) { wrong++;"
            + " System.out.println(call + \" answered \" + got + \", README.md says \" + want); } }\n"
            + "public static void main(String[] args) {\n" + calls + "if (wrong != 0) { System.exit(1); }\n}\n}\n";
        Files.writeString(copy.resolve("Examples.java"), program);
        need(runs(copy, "javac -d examples src/main/java/LabyrinthGarden.java Examples.java && java -cp examples Examples"),
            "the examples answer what is told of them");
    }

    private static String checked(String call, String want) {
        String name = "\"" + call.replace("\"", "\\\"") + "\"";
        return "{ String got; try { got = String.valueOf(" + call + "); }"
            + " catch (RuntimeException e) { got = e.getClass().getSimpleName(); } due(" + name + ", got, \"" + want + "\"); }\n";
    }

    private static void checkCommands(String readme, Path copy) throws Exception {
        List<String> commands = blocks(readme, "sh");
        need(commands.remove(ALL_TESTS + "\n"), "README.md tells how to run all tests");
        need(Files.isExecutable(Path.of(ALL_TESTS)), ALL_TESTS + " can be run");
        need(!commands.isEmpty(), "README.md tells how to run one test");
        for (String command : commands) {
            need(runs(copy, "set -e\n" + command), "the command runs: " + command);
        }
    }

    private static boolean runs(Path folder, String command) throws Exception {
        Process process = new ProcessBuilder("sh", "-c", command).directory(folder.toFile()).inheritIO().start();
        return process.waitFor() == 0;
    }

    private static void checkNothingIsLeftOut(String readme) throws IOException {
        for (Method method : LabyrinthGarden.class.getDeclaredMethods()) {
            if (java.lang.reflect.Modifier.isPublic(method.getModifiers())) {
                need(readme.contains("`" + method.getName() + "("), "README.md tells of " + method.getName());
            }
        }
        for (Path test : under(Path.of("src/test/java"))) {
            if (Files.isRegularFile(test)) {
                need(readme.contains("- `" + test.toString().replace('\\', '/') + "`:"), "README.md tells of " + test);
            }
        }
    }

    private static void copyCheckout(Path copy) throws IOException {
        for (Path from : under(Path.of("src"))) {
            Path to = copy.resolve(from.toString());
            if (Files.isDirectory(from)) {
                Files.createDirectories(to);
            } else {
                Files.copy(from, to);
            }
        }
    }

    private static void delete(Path folder) throws IOException {
        List<Path> all = under(folder);
        all.sort(Comparator.reverseOrder());
        for (Path path : all) {
            Files.delete(path);
        }
    }

    private static List<Path> under(Path folder) throws IOException {
        try (Stream<Path> all = Files.walk(folder)) {
            return all.collect(Collectors.toCollection(ArrayList::new));
        }
    }
}
