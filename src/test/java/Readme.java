import java.io.IOException;
import java.nio.charset.StandardCharsets;
import java.nio.file.Files;
import java.nio.file.Path;
import java.util.ArrayList;
import java.util.LinkedHashMap;
import java.util.List;
import java.util.Map;
import java.util.Set;
import java.util.TreeSet;
import java.util.regex.Matcher;
import java.util.regex.Pattern;

/** README.md, taken apart. */
final class Readme {
    private static final Pattern BLOCK = Pattern.compile("(?ms)^```(\\w+)\n(.*?)^```$");
    private static final Pattern CALL = Pattern.compile("(\\s*)x\\.(\\w+\\(.*\\));\\s*// (NONE|true|false|-?\\d+)(:.*)?");
    private static final Pattern ROW = Pattern.compile("(?m)^\\| `(\\w+)\\(([^)]*)\\)` \\| .+ \\| `([^`]+)`.* \\|$");
    private static final Pattern TEST = Pattern.compile("`(\\w+(?:Tests|Bounds))`");

    private final String text;
    /** How many calls the program holds against what the page says they answer. */
    int calls;
    /** What stands in the blocks but can't be held against anything. */
    final List<String> unclear = new ArrayList<>();

    Readme(Path page) throws IOException {
        text = Files.readString(page, StandardCharsets.UTF_8);
    }

    List<String> blocks(String language) {
        List<String> all = new ArrayList<>();
        Matcher block = BLOCK.matcher(text);
        while (block.find()) {
            if (block.group(1).equals(language)) {
                all.add(block.group(2));
            }
        }
        return all;
    }

    /** The blocks as one class: just as they stand, or with each answer held against what is said. */
    String program(String name, boolean asksEach) {
        StringBuilder methods = new StringBuilder();
        StringBuilder main = new StringBuilder();
        for (String block : blocks("java")) {
            if (block.startsWith("static ")) {
                methods.append(block);
            } else {
                main.append(asksEach ? asking(block) : block);
            }
        }
        return "final class " + name + " {\n    static final int NONE = LadderLand.NONE;\n" + methods
            + "    public static void main(String[] args) {\n" + main + "    Check.end(\"" + name + "\");\n    }\n}\n";
    }

    private String asking(String block) {
        StringBuilder all = new StringBuilder();
        for (String line : block.split("\n")) {
            Matcher call = CALL.matcher(line);
            if (call.matches()) {
                calls++;
                all.append("Check.is(\"README.md: ").append(call.group(2)).append("\", x.").append(call.group(2))
                    .append(", ").append(call.group(3)).append(");\n");
            } else {
                if (line.contains("x.") || line.contains("//")) {
                    unclear.add(line);
                }
                all.append(line).append('\n');
            }
        }
        return all.toString();
    }

    /** Of each call in the table, as name/how many arguments, its "no". */
    Map<String, String> table() {
        Map<String, String> all = new LinkedHashMap<>();
        Matcher row = ROW.matcher(text);
        while (row.find()) {
            String taken = row.group(2).trim();
            all.put(row.group(1) + "/" + (taken.isEmpty() ? 0 : taken.split(",").length), row.group(3));
        }
        return all;
    }

    Set<String> namedTests() {
        Set<String> all = new TreeSet<>();
        Matcher test = TEST.matcher(text);
        while (test.find()) {
            all.add(test.group(1));
        }
        return all;
    }
}
