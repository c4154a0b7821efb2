import java.io.IOException;
import java.lang.reflect.Method;
import java.lang.reflect.Modifier;
import java.nio.charset.StandardCharsets;
import java.nio.file.Files;
import java.nio.file.Path;
import java.util.Arrays;
import java.util.List;
import java.util.Map;
import java.util.Set;
import java.util.TreeSet;
import java.util.stream.Collectors;
import java.util.stream.Stream;

/** What README.md says: its calls answer as it says, and its commands run the tests on a clean checkout. */
public final class ReadmeTests extends Check {
    private static final Path TESTS = Path.of("src/test/java");
    private static final Path SHARED_TESTS = Path.of("../shared/tests");
    /** An argument that no call can be met with. */
    private static final int AMISS = -5;

    private ReadmeTests() {
    }

    public static void main(String[] args) throws Exception {
        Readme page = new Readme(Path.of("README.md"));
        showsEachCall(page);
        tellsEachNo(page);
        namesEachTest(page);
        if (CleanCopy.isHere()) {
            System.out.println("ReadmeTests: in a copy, so the commands are not tried once more");
        } else {
            answersAsShown(page);
            runsAsTold(page);
            refusesWhatIsWrong();
        }
        end("ReadmeTests");
    }

    private static Set<String> face() {
        Set<String> all = new TreeSet<>();
        for (Method m : LadderLand.class.getDeclaredMethods()) {
            if (Modifier.isPublic(m.getModifiers())) {
                all.add(m.getName() + "/" + m.getParameterCount());
            }
        }
        return all;
    }

    // ---- calls

    private static void showsEachCall(Readme page) {
        String shown = String.join("\n", page.blocks("java"));
        for (String call : face()) {
            String name = call.substring(0, call.indexOf('/'));
            is("README.md shows " + name, shown.contains("x." + name + "("), true);
        }
        page.program("Shown", true);
        for (String line : page.unclear) {
            boolean isKnown = line.equals("LadderLand x = new LadderLand();");
            is("README.md tells an answer behind " + line, isKnown, true);
        }
    }

    /** The blocks as they stand, with each answer held against what is said, and that once more with the model. */
    private static void answersAsShown(Readme page) throws IOException, InterruptedException {
        try (CleanCopy copy = new CleanCopy()) {
            page.calls = 0;
            String shown = page.program("Shown", true);
            write(copy, "Plain", page.program("Plain", false));
            write(copy, "Shown", shown);
            write(copy, "Modelled", shown.replace("LadderLand", "Model").replace("Shown", "Modelled"));
            String said = copy.run("javac -encoding UTF-8 -d shown src/main/java/LadderLand.java src/test/java/*.java\n"
                + "java -cp shown Plain\njava -cp shown Modelled\njava -cp shown Shown");
            has("README.md's calls", said, "Modelled: " + page.calls + " answers as due, 0 not",
                "Shown: " + page.calls + " answers as due, 0 not", "end 0");
        }
    }

    private static void write(CleanCopy copy, String name, String program) throws IOException {
        Files.writeString(copy.folder.resolve("src/test/java/" + name + ".java"), program, StandardCharsets.UTF_8);
    }

    private static void tellsEachNo(Readme page) throws ReflectiveOperationException {
        Map<String, String> table = page.table();
        same("README.md's table", new TreeSet<>(table.keySet()).toString(), face().toString());
        for (Method m : LadderLand.class.getDeclaredMethods()) {
            String no = table.get(m.getName() + "/" + m.getParameterCount());
            if (Modifier.isPublic(m.getModifiers()) && no != null) {
                same("README.md's no of " + m.getName(), no, noOf(m));
            }
        }
    }

    /** On a new object, but for feed, which can be met till the tape is full. */
    private static String noOf(Method m) throws ReflectiveOperationException {
        LadderLand x = new LadderLand();
        for (int i = 0; m.getName().equals("feed") && i < 20; i++) {
            x.feed(0, 0, 0, 0, 0);
        }
        Object[] args = Arrays.stream(m.getParameterTypes())
            .map(type -> type == boolean.class ? (Object) false : (Object) AMISS).toArray();
        Object answer = m.invoke(x, args);
        if (m.getName().equals("ladder") || m.getName().equals("rule")) {
            return answer.equals(fault(0, 0)) ? "-2 - fault" : answer.toString();
        }
        return answer.equals(NONE) ? "NONE" : answer.toString();
    }

    // ---- tests

    private static void namesEachTest(Readme page) throws IOException {
        Set<String> named = page.namedTests();
        Set<String> there = sources(TESTS).stream().filter(name -> name.matches("\\w+(Tests|Bounds)"))
            .collect(Collectors.toCollection(TreeSet::new));
        same("README.md's tests", named.toString(), there.toString());
    }

    private static List<String> sources(Path folder) throws IOException {
        try (Stream<Path> paths = Files.list(folder)) {
            return paths.map(path -> path.getFileName().toString()).filter(name -> name.endsWith(".java"))
                .map(name -> name.substring(0, name.length() - ".java".length())).sorted().toList();
        }
    }

    private static void runsAsTold(Readme page) throws IOException, InterruptedException {
        List<String> commands = page.blocks("sh");
        is("README.md tells how to run the tests", commands.isEmpty(), false);
        boolean ranAll = false;
        try (CleanCopy copy = new CleanCopy()) {
            for (String command : commands) {
                String said = copy.run(command);
                has("README.md's " + command.trim(), said, "end 0");
                if (command.trim().equals(".ci/run")) {
                    ranAll = true;
                    has(command.trim(), said, passedLines());
                }
            }
        }
        is("README.md tells to run .ci/run", ranAll, true);
    }

    private static String[] passedLines() throws IOException {
        Stream<String> shared = sources(SHARED_TESTS).stream().map(name -> SHARED_TESTS + "/" + name);
        Stream<String> own = sources(TESTS).stream().filter(name -> name.endsWith("Tests")).map(name -> TESTS + "/" + name);
        return Stream.concat(shared, own).map(name -> "passed: " + name + ".java").toArray(String[]::new);
    }

    /** In a small copy, so that it takes little time: one thing is made wrong in it, and .ci/run must end with 1. */
    private static void refusesWhatIsWrong() throws IOException, InterruptedException {
        endsWith("all as it is", "README.md", "", 0);
        endsWith("a failing test under ../shared", "../shared/tests/Wrong.java",
            "public class Wrong { public static void main(String[] args) { System.exit(1); } }", 1);
        endsWith("a class that doesn't compile", "src/main/java/LadderLand.java", "public final class LadderLand {", 1);
        String source = Files.readString(Path.of("src/main/java/LadderLand.java"), StandardCharsets.UTF_8);
        String broken = source.replace("HOURS_AHEAD = 100", "HOURS_AHEAD = 99");
        is("a class to break", broken.equals(source), false);
        endsWith("a class that answers wrong", "src/main/java/LadderLand.java", broken, 1);
    }

    private static void endsWith(String what, String file, String content, int due) throws IOException, InterruptedException {
        try (CleanCopy copy = new CleanCopy()) {
            copy.keepOnly(List.of("PromiseTests.java", "Check.java", "Bytes.java", "Sight.java"));
            Files.writeString(copy.folder.resolve(file), content, StandardCharsets.UTF_8);
            has(".ci/run, " + what, copy.run(".ci/run"), "end " + due);
        }
    }

    /** Each of these as a line of its own. */
    private static void has(String what, String said, String... lines) {
        List<String> all = Arrays.asList(said.split("\n"));
        for (String line : lines) {
            boolean isThere = all.contains(line);
            is(what + " says " + line, isThere, true);
            if (!isThere) {
                System.out.println(said);
            }
        }
    }
}
