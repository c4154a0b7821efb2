import java.lang.reflect.Constructor;
import java.lang.reflect.Field;
import java.lang.reflect.Method;
import java.lang.reflect.Modifier;
import java.nio.charset.StandardCharsets;
import java.nio.file.Files;
import java.nio.file.Path;
import java.util.Arrays;
import java.util.Set;
import java.util.TreeSet;
import java.util.regex.Matcher;
import java.util.regex.Pattern;

/** The public face, the rules of LANGUAGE.md that can be seen from outside, and the room that calls take. */
public final class FaceTests {
    private static final String[] FACE = {
        "int feed(int, int, int, int, int)", "int end(int)", "int ladder()", "int rule()", "int force(int)",
        "int person(int, int)", "int rung(int, int)", "int hour()", "int step(int, boolean)", "boolean pass(int, int)",
        "int mend(int)", "int cut(int)", "int aim(int, int)", "int undo()", "int ahead(int, int, int)", "int breaks(int)",
        "int moves(int)", "int move(int, int, int)", "int squeeze(int)", "int mending(int)", "int capital()",
        "int ballot()", "int hold(int, int)", "int goods(int, int)", "int stand(int, int)", "int note(int, int, int)",
        "int ruled(int)", "int look(int, int)", "int seed(int)", "int years(int, int, int, int)", "int count(int)",
        "int image(int)", "int back(int)"};
    private static final int MOST_CLASSES = 12;
    private static final int MOST_LINES = 60;
    /** What the class may use of LANGUAGE.md 4, as far as it does. */
    private static final Set<String> LIBRARY = Set.of("Arrays.copyOf", "Arrays.fill", "System.arraycopy",
        "Integer.bitCount", "Integer.compare", "Long.compare", "Math.max", "Math.min");
    private static int wrong = 0;

    private static void mind(boolean fine, String what) {
        if (!fine) {
            wrong++;
            System.out.println(what);
        }
    }

    public static void main(String[] args) throws Exception {
        face();
        names();
        source(Files.readString(Path.of("src/main/java/LadderLand.java"), StandardCharsets.UTF_8));
        room();
        System.out.println("FaceTests: " + wrong + " faults");
        if (wrong != 0) {
            System.exit(1);
        }
    }

    private static void face() {
        Set<String> seen = new TreeSet<>();
        for (Method m : LadderLand.class.getDeclaredMethods()) {
            if (!Modifier.isPrivate(m.getModifiers())) {
                String types = Arrays.toString(Arrays.stream(m.getParameterTypes()).map(Class::getName).toArray());
                seen.add(m.getReturnType() + " " + m.getName() + "(" + types.substring(1, types.length() - 1) + ")");
                mind(Modifier.isPublic(m.getModifiers()), m + " is not public");
            }
        }
        mind(seen.equals(new TreeSet<>(Arrays.asList(FACE))), "the face is " + seen);
        for (Field f : LadderLand.class.getDeclaredFields()) {
            mind(f.getName().equals("NONE") == !Modifier.isPrivate(f.getModifiers()), f + " in the face");
        }
        Constructor<?>[] made = LadderLand.class.getDeclaredConstructors();
        mind(made.length == 1 && Modifier.isPublic(made[0].getModifiers()) && made[0].getParameterCount() == 0,
            "one public constructor");
        mind(Modifier.isFinal(LadderLand.class.getModifiers()), "the class is final");
        mind(LadderLand.NONE == -1, "NONE");
    }

    private static void names() {
        Class<?>[] inside = LadderLand.class.getDeclaredClasses();
        mind(inside.length + 1 <= MOST_CLASSES, inside.length + " classes inside");
        for (Class<?> c : inside) {
            mind(Modifier.isStatic(c.getModifiers()), c + " is not static");
            mind(Arrays.stream(c.getDeclaredFields()).filter(f -> !Modifier.isStatic(f.getModifiers())).count() <= 20,
                c + " has many fields");
            for (Method m : c.getDeclaredMethods()) {
                mind(Arrays.stream(FACE).noneMatch(f -> f.contains(" " + m.getName() + "(")), m + " is named like the face");
                mind(m.getParameterCount() <= 7, m + " takes too much");
            }
        }
    }

    private static void source(String text) {
        String code = text.replaceAll("(?s)/\\*.*?\\*/", "").replaceAll("//[^\n]*", "");
        mind(text.chars().allMatch(c -> c < 128), "a sign above 127");
        for (String word : new String[] {"throw", "throws", "try", "catch", "synchronized", "assert", "package", "System.out",
            "Object", "double", "float", "var"}) {
            mind(!Pattern.compile("\\b" + Pattern.quote(word) + "\\b").matcher(code).find(), "the word " + word);
        }
        mind(!code.contains("->") && !code.contains("::"), "a lambda");
        Matcher imports = Pattern.compile("import ([^;]+);").matcher(code);
        while (imports.find()) {
            mind(imports.group(1).equals("java.util.Arrays"), "import " + imports.group(1));
        }
        mind(!Pattern.compile("static (?!final|int |long |boolean |void )").matcher(code).find(), "static state");
        Matcher used = Pattern.compile("\\b(Integer|Long|Math|Arrays|System|String|StringBuilder)\\s*\\.\\s*(\\w+)").matcher(code);
        while (used.find()) {
            mind(LIBRARY.contains(used.group(1) + "." + used.group(2)), "LANGUAGE.md 4: " + used.group());
        }
        lengths(text);
    }

    private static void lengths(String text) {
        String[] lines = text.split("\n");
        int start = -1;
        String indent = "";
        for (int i = 0; i < lines.length; i++) {
            Matcher opens = Pattern.compile("( {4}| {8})[a-zA-Z].*\\) \\{").matcher(lines[i]);
            if (start < 0 && opens.matches()) {
                start = i;
                indent = opens.group(1);
            } else if (start >= 0 && lines[i].equals(indent + "}")) {
                mind(i - start < MOST_LINES, "a method of " + (i - start + 1) + " lines: " + lines[start]);
                selfCalls(Arrays.copyOfRange(lines, start, i));
                start = -1;
            }
        }
    }

    /** LANGUAGE.md 8: what calls itself is static; others may call one another. */
    private static void selfCalls(String[] method) {
        Matcher name = Pattern.compile("(\\w+)\\(").matcher(method[0]);
        if (method[0].contains(" static ") || !name.find()) {
            return;
        }
        Pattern call = Pattern.compile("(?<![\\w.])(this\\.)?" + name.group(1) + "\\(");
        for (int i = 1; i < method.length; i++) {
            mind(!call.matcher(method[i]).find(), "LANGUAGE.md 8: calls itself: " + method[0].trim());
        }
    }

    /** What a run keeps: 512 of the dearest calls may make next to nothing beyond what the object is made of. */
    private static void room() {
        com.sun.management.ThreadMXBean bean =
            (com.sun.management.ThreadMXBean) java.lang.management.ManagementFactory.getThreadMXBean();
        long thread = Thread.currentThread().getId();
        long ahead = bean.getThreadAllocatedBytes(thread);
        LadderLand x = new LadderLand();
        long made = bean.getThreadAllocatedBytes(thread) - ahead;
        mind(made < 40_000, "a new object takes " + made + " bytes");
        Bytes.put(x, "ladder 9;rung 4 1 999;person 0 9 9 8;person 1 9 9 0;person 3 9 9 0;person 4 9 9 4");
        x.ladder();
        Bytes.put(x, "climb want-rung if hour%7<5;climb rung-want");
        x.rule();
        x.force(0);
        ahead = bean.getThreadAllocatedBytes(thread);
        for (int i = 0; i < 40; i++) {
            x.hour();
            x.moves(15);
            x.move(15, 1, 0);
            x.squeeze(15);
            x.mending(0);
            x.hold(4, 0);
            x.ballot();
            x.goods(0, 8);
            x.look(60, 0);
            x.years(10, 60, 50, 0);
            x.image(0);
            x.back(0);
        }
        long taken = bean.getThreadAllocatedBytes(thread) - ahead;
        mind(taken < 100_000, "480 dear calls take " + taken + " bytes");
    }
}
