import java.io.File;
import java.io.IOException;
import java.nio.charset.StandardCharsets;
import java.nio.file.FileVisitOption;
import java.nio.file.Files;
import java.nio.file.Path;
import java.util.ArrayList;
import java.util.Comparator;
import java.util.List;
import java.util.concurrent.TimeUnit;
import java.util.stream.Stream;

/** This folder as a clean checkout would have it, elsewhere, with ../shared beside it; commands run in it. */
final class CleanCopy implements AutoCloseable {
    /** Set where commands run, so that a test that makes copies makes none in a copy. */
    private static final String MARK = "LADDERLAND_CLEAN_COPY";
    private static final String[] KEPT = {".ci", "src", "README.md", "NOTES.md"};
    private static final int MOST_MINUTES = 20;

    private final Path top;
    final Path folder;
    final Path shared;

    CleanCopy() throws IOException {
        top = Files.createTempDirectory("ladderland");
        folder = Files.createDirectory(top.resolve("main"));
        shared = top.resolve("shared");
        copy(Path.of("../shared"), shared);
        for (String name : KEPT) {
            copy(Path.of(name), folder.resolve(name));
        }
    }

    static boolean isHere() {
        return System.getenv(MARK) != null;
    }

    /** Links are followed: what they lead to may not be there from the copy. */
    private static void copy(Path from, Path to) throws IOException {
        Path real = from.toRealPath();
        for (Path path : all(real, FileVisitOption.FOLLOW_LINKS)) {
            Files.copy(path, to.resolve(real.relativize(path).toString()));
        }
    }

    private static List<Path> all(Path from, FileVisitOption... options) throws IOException {
        try (Stream<Path> paths = Files.walk(from, options)) {
            return new ArrayList<>(paths.toList());
        }
    }

    /** Of the project's tests these are left, and what they need. */
    void keepOnly(List<String> names) throws IOException {
        for (Path path : all(folder.resolve("src/test/java"))) {
            String name = path.getFileName().toString();
            if (name.endsWith(".java") && !names.contains(name)) {
                Files.delete(path);
            }
        }
    }

    /** What the commands print, their end's number as the last line. */
    String run(String commands) throws IOException, InterruptedException {
        File out = top.resolve("out.txt").toFile();
        ProcessBuilder shell = new ProcessBuilder("sh", "-e", "-c", commands);
        shell.directory(folder.toFile()).redirectErrorStream(true).redirectOutput(out);
        shell.environment().put(MARK, "1");
        Process process = shell.start();
        process.getOutputStream().close();
        if (!process.waitFor(MOST_MINUTES, TimeUnit.MINUTES)) {
            process.destroyForcibly();
            return "still running after " + MOST_MINUTES + " minutes\nend -1";
        }
        return Files.readString(out.toPath(), StandardCharsets.UTF_8) + "\nend " + process.exitValue();
    }

    @Override
    public void close() throws IOException {
        List<Path> paths = all(top);
        paths.sort(Comparator.reverseOrder());
        for (Path path : paths) {
            Files.delete(path);
        }
    }
}
