import java.lang.reflect.Method;
import java.lang.reflect.Modifier;
import java.util.ArrayList;
import java.util.Arrays;
import java.util.Comparator;
import java.util.List;
import java.util.Random;

/** Long runs of chance calls, each answered by LadderLand and by the Model; the first that differs is told. */
public final class ModelTests {
    private static final int CALLS = 400;

    private final Random random;
    private final int run;
    private final LadderLand made = new LadderLand();
    private final Model model = new Model();
    private final List<String> told = new ArrayList<>();
    private final List<Method> face = new ArrayList<>();
    private int rungs = 5;

    private ModelTests(int run) {
        this.run = run;
        random = new Random(run * 7919L + 13);
        for (Method m : LadderLand.class.getDeclaredMethods()) {
            if (Modifier.isPublic(m.getModifiers())) {
                face.add(m);
            }
        }
        face.sort(Comparator.comparing(Method::getName));
    }

    public static void main(String[] args) throws Exception {
        int runs = args.length > 0 ? Integer.parseInt(args[0]) : 600;
        int first = args.length > 1 ? Integer.parseInt(args[1]) : 0;
        int wrong = 0;
        for (int i = first; i < first + runs; i++) {
            wrong += new ModelTests(i).runAll() ? 0 : 1;
        }
        System.out.println("ModelTests: " + (runs - wrong) + " runs as the model, " + wrong + " not");
        if (wrong != 0) {
            System.exit(1);
        }
    }

    private boolean runAll() throws Exception {
        if (run % 3 == 1) {
            return narrowRun();
        }
        if (run % 3 == 2) {
            return textRun();
        }
        if (random.nextInt(10) > 0 && !(tell(goodLadder(), "ladder") && tell(rule(4), "rule"))) {
            return false;
        }
        while (told.size() < CALLS) {
            if (!callSome()) {
                return false;
            }
        }
        return true;
    }

    private boolean callSome() throws Exception {
        switch (random.nextInt(40)) {
            case 0: return tell(spoilt(goodLadder()), "ladder");
            case 1: return tell(spoilt(rule(6)), "rule");
            case 2: return random.nextInt(8) > 0 || tell(goodLadder(), "ladder");
            case 3: return tell(rule(4), "rule");
            case 4: case 5: case 6: case 7: case 8: case 9:
            case 10: return both("hour");
            default:
                Method m = face.get(random.nextInt(face.size()));
                if (isDear(m.getName()) && random.nextInt(4) > 0) {
                    return true;
                }
                if (List.of("ladder", "rule", "back", "end", "cut").contains(m.getName()) && random.nextInt(5) > 0) {
                    return true;
                }
                return both(m.getName(), argumentsOf(m));
        }
    }

    /** A crowd on a ladder with little room: all that is searched for, for each set. */
    private boolean narrowRun() throws Exception {
        if (!tell(narrowLadder(), "ladder")) {
            return false;
        }
        for (int i = 0; i < 3; i++) {
            for (int set = 0; set < 16; set++) {
                if (!both("moves", set) || !both("squeeze", set) || !rowOf(set)) {
                    return false;
                }
            }
            for (int n = 1; n < 5; n++) {
                if (!both("hold", n, 0) || !both("hold", n, 1)) {
                    return false;
                }
            }
            if (!both("ballot") || !both("hour") || !both("cut", random.nextInt(rungs)) || !both("ballot")) {
                return false;
            }
            int person = random.nextInt(4);
            if (!both("aim", person, random.nextInt(rungs)) || !both("hold", 4, 1)) {
                return false;
            }
        }
        return true;
    }

    private boolean rowOf(int set) throws Exception {
        int length = model.moves(set);
        for (int k = 0; k <= length; k++) {
            if (random.nextInt(4) == 0 && !both("move", set, k, random.nextInt(3))) {
                return false;
            }
        }
        return true;
    }

    private String narrowLadder() {
        rungs = 3 + random.nextInt(4);
        StringBuilder s = new StringBuilder("ladder " + rungs);
        for (int r = 0; r < rungs; r++) {
            s.append(";rung ").append(r).append(random.nextInt(4) > 0 ? " 1 " : " 2 ").append("900");
        }
        List<Integer> free = new ArrayList<>();
        for (int r = 0; r < rungs; r++) {
            free.add(r);
        }
        java.util.Collections.shuffle(free, random);
        for (int p = 0; p < Math.min(4, rungs - random.nextInt(2)); p++) {
            s.append(";person ").append(free.get(p)).append(" 5 20 ").append(random.nextInt(rungs));
        }
        if (free.size() > 4 && random.nextInt(3) == 0) {
            s.append(";broken ").append(free.get(4));
        }
        return s.toString();
    }

    /** Texts at the edges of what can be told. */
    private boolean textRun() throws Exception {
        for (int i = 0; i < 6; i++) {
            if (!tell(spoiltAtTimes(manyClauses()), "ladder") || !tell(spoiltAtTimes(deepRule()), "rule")) {
                return false;
            }
            if (!tell(spoiltAtTimes(fullRule()), "rule") || !tell(spoiltAtTimes(goodLadder()), "ladder")) {
                return false;
            }
            if (!both("force", i - 1) || !both("hour") || !both("hour") || !both("ahead", 0, 9, 0)) {
                return false;
            }
        }
        return true;
    }

    private String spoiltAtTimes(String text) {
        return random.nextInt(4) == 0 ? spoilt(text) : text;
    }

    private String manyClauses() {
        rungs = 9;
        StringBuilder s = new StringBuilder("ladder 9");
        int most = 36 + random.nextInt(6);
        for (int i = 0; i < most; i++) {
            s.append(";broken").append(random.nextInt(4));
        }
        for (int i = random.nextInt(6); i > 0; i--) {
            s.append(";person").append(3 + i).append(" 5 9 8");
        }
        return cutTo(s, 400);
    }

    private String deepRule() {
        StringBuilder s = new StringBuilder("climb want-rung if ");
        String close = "";
        for (int i = 8 + random.nextInt(4); i > 0; i--) {
            boolean isNot = random.nextBoolean();
            s.append(isNot ? "not " : random.nextInt(3) > 0 ? "[" : "[not 1=2 and [1=1 or 2=3] or ");
            close = isNot ? close : "]" + close;
        }
        return cutTo(s.append("hour%2=0").append(close).append(";climb 1"), 400);
    }

    private String fullRule() {
        StringBuilder s = new StringBuilder("climb 1");
        int left = 55 + random.nextInt(6);
        for (int clauses = random.nextInt(13); clauses > 0; clauses--) {
            s.append(random.nextBoolean() ? ";climb 0-1 if hour<5" : ";climb 2");
            left -= s.charAt(s.length() - 1) == '5' ? 5 : 1;
        }
        s.append(random.nextBoolean() ? " if hour>=0" : "");
        for (; left > 0; left--) {
            s.append(random.nextBoolean() ? "+1" : "*rung");
        }
        s.append(random.nextInt(3) == 0 ? "<3" : random.nextInt(3) == 0 ? "+123456" : "");
        return cutTo(s, 400);
    }

    private static boolean isDear(String name) {
        return List.of("moves", "move", "squeeze", "hold").contains(name);
    }

    private Object[] argumentsOf(Method m) {
        Object[] all = new Object[m.getParameterCount()];
        for (int i = 0; i < all.length; i++) {
            all[i] = m.getParameterTypes()[i] == boolean.class ? (Object) random.nextBoolean()
                : (Object) argument(m.getName(), i);
        }
        return all;
    }

    private int argument(String name, int i) {
        if (random.nextInt(40) == 0) {
            return new int[] {-1, -2, Integer.MIN_VALUE, Integer.MAX_VALUE, 100, 1000, 5, 9}[random.nextInt(8)];
        }
        switch (name + i) {
            case "person0": case "step0": case "pass0": case "pass1": case "aim0": case "ahead0": return random.nextInt(4);
            case "rung0": case "mend0": case "cut0": case "aim1": case "goods0": case "goods1": case "stand0":
            case "note1": return random.nextInt(rungs + 1) % 10;
            case "person1": return random.nextInt(8);
            case "rung1": return random.nextInt(7);
            case "force0": return random.nextInt(8) - 1;
            case "ahead1": return random.nextInt(102);
            case "moves0": case "move0": case "squeeze0": return random.nextInt(17);
            case "move1": return random.nextInt(8);
            case "hold0": return 1 + random.nextInt(4);
            case "stand1": return random.nextInt(22);
            case "note0": return random.nextInt(20) == 0 ? -1 : random.nextInt(3) == 0 ? random.nextInt(62) : random.nextInt(6);
            case "note2": return random.nextInt(3);
            case "look0": return random.nextInt(62);
            case "seed0": return random.nextInt();
            case "years0": return random.nextInt(11);
            case "years1": return random.nextInt(61);
            case "years2": return random.nextInt(102);
            case "count0": return random.nextInt(14);
            case "image0": case "back0": return random.nextInt(5);
            case "end0": return random.nextInt(100);
            default: return name.equals("feed") ? random.nextInt() : random.nextInt(3);
        }
    }

    private boolean tell(String text, String reader) throws Exception {
        if (!both("end", 0)) {
            return false;
        }
        for (int[] p : Bytes.pieces(text)) {
            if (!both("feed", p[0], p[1], p[2], p[3], p[4])) {
                return false;
            }
        }
        told.add("// " + text);
        return both("end", text.length()) && both(reader) && sameAll();
    }

    private boolean both(String name, Object... args) throws Exception {
        Class<?>[] types = new Class<?>[args.length];
        for (int i = 0; i < args.length; i++) {
            types[i] = args[i] instanceof Boolean ? boolean.class : int.class;
        }
        Object got = LadderLand.class.getMethod(name, types).invoke(made, args);
        Object due = Model.class.getMethod(name, types).invoke(model, args);
        told.add(name + Arrays.toString(args) + " = " + due);
        if (got.equals(due)) {
            return List.of("count", "person", "rung").contains(name) || random.nextInt(6) > 0 || sameAll();
        }
        for (String line : told) {
            System.out.println(line);
        }
        System.out.println("run " + run + ": answered " + got + ", due is " + due);
        return false;
    }

    private boolean sameAll() throws Exception {
        int kept = told.size();
        for (int what = 0; what < 13; what++) {
            if (!both("count", what)) {
                return false;
            }
        }
        for (int i = 0; i < 9; i++) {
            for (int what = 0; what < 7; what++) {
                if (i < 4 && !both("person", i, what) || !both("rung", i, what)) {
                    return false;
                }
            }
        }
        told.subList(kept, told.size()).clear();
        return true;
    }

    // ---- texts by chance

    private String goodLadder() {
        rungs = 3 + random.nextInt(7);
        int[] room = new int[rungs];
        int[] on = new int[rungs];
        boolean[] broken = new boolean[rungs];
        Arrays.fill(room, 2);
        StringBuilder s = new StringBuilder("ladder " + rungs);
        int people = Math.min(4, 1 + random.nextInt(5)) - random.nextInt(2);
        boolean weak = random.nextBoolean();
        for (int i = random.nextInt(14); i >= 0 || people > 0; i--) {
            int r = random.nextInt(rungs);
            switch (random.nextInt(4)) {
                case 0:
                    room[r] = Math.max(Math.max(1, on[r]), random.nextInt(5));
                    s.append("; rung ").append(r).append(' ').append(room[r]).append(' ')
                        .append(1 + random.nextInt(weak ? 90 : 999));
                    break;
                case 1:
                    if (on[r] == 0 && random.nextBoolean()) {
                        broken[r] = true;
                        s.append(";broken").append(r);
                    }
                    break;
                default:
                    if (people > 0 && !broken[r] && on[r] < room[r]) {
                        s.append(" ;person ").append(r).append(' ').append(1 + random.nextInt(20)).append("  ")
                            .append(1 + random.nextInt(random.nextBoolean() ? 30 : 5)).append(' ').append(random.nextInt(rungs));
                        on[r]++;
                        people--;
                    }
                    break;
            }
            if (i < -60) {
                people = 0;
            }
        }
        return cutTo(s, 400);
    }

    private String rule(int clauses) {
        StringBuilder s = new StringBuilder();
        int n = 1 + random.nextInt(clauses);
        for (int i = 0; i < n; i++) {
            s.append(i > 0 ? ";" : "").append("climb ");
            sum(s);
            if (i < n - 1 || random.nextBoolean()) {
                s.append(" if ");
                test(s, random.nextInt(5));
            }
        }
        return cutTo(s, 400);
    }

    private static String cutTo(StringBuilder s, int most) {
        s.setLength(Math.min(most, s.length()));
        return s.toString();
    }

    private void test(StringBuilder s, int depth) {
        fact(s, depth);
        for (int i = random.nextInt(3); i > 0; i--) {
            s.append(random.nextBoolean() ? " and " : " or ");
            fact(s, depth);
        }
    }

    private void fact(StringBuilder s, int depth) {
        int kind = depth > 0 ? random.nextInt(4) : 3;
        if (kind == 0) {
            s.append("not ");
            fact(s, depth - 1);
        } else if (kind == 1) {
            s.append("[");
            test(s, depth - 1);
            s.append("] ");
        } else {
            sum(s);
            s.append(new String[] {"<", "<=", "=", ">=", ">"}[random.nextInt(5)]);
            sum(s);
        }
    }

    private void sum(StringBuilder s) {
        value(s);
        for (int i = random.nextInt(3); i > 0; i--) {
            s.append("+-*/%-".charAt(random.nextInt(6)));
            value(s);
        }
    }

    private void value(StringBuilder s) {
        if (random.nextInt(3) == 0) {
            s.append(random.nextInt(random.nextInt(10) == 0 ? 100000 : 7));
        } else {
            s.append(new String[] {"person", "rung", "want", "weight", "grip", "told", "hour", "here", "above",
                "below", "worn", "strength", "slips"}[random.nextInt(13)]);
        }
    }

    /** A text with one piece left out, doubled, or put elsewhere. */
    private String spoilt(String text) {
        StringBuilder s = new StringBuilder(text);
        for (int i = random.nextInt(3); i >= 0 && s.length() > 0; i--) {
            int at = random.nextInt(s.length());
            int to = Math.min(s.length(), at + 1 + random.nextInt(random.nextBoolean() ? 2 : 40));
            String piece = s.substring(at, to);
            switch (random.nextInt(4)) {
                case 0: s.delete(at, to); break;
                case 1: s.insert(at, piece); break;
                case 2: s.insert(random.nextInt(s.length()), piece); break;
                default: s.insert(at, new String[] {"0", "1", ";", "not ", "[", "]", " if ", " and ", "<", "=", "12345", "é",
                    "person", "ladder 4;", "\0", "-", "*"}[random.nextInt(17)]); break;
            }
        }
        return cutTo(s, 400);
    }
}
