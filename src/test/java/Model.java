import java.util.ArrayList;
import java.util.Arrays;
import java.util.Comparator;
import java.util.HashMap;
import java.util.LinkedHashMap;
import java.util.List;
import java.util.Map;

/**
 * The document once more, in its plainest and slowest form, with the Java library: what ModelTests holds
 * LadderLand against. It shares no code with it, and finds what it finds in other ways.
 */
public final class Model {
    static final int NONE = -1;

    static final class Fault extends Exception {
        final int number;

        Fault(int place, int kind) {
            number = 1 + 8 * place + kind;
        }
    }

    static final class Token {
        final String text;
        final int place;

        Token(String text, int place) {
            this.text = text;
            this.place = place;
        }

        boolean isNumber() {
            return text.matches("[0-9]+");
        }
    }

    static final class Country implements Cloneable {
        int rungs;
        int hour;
        List<Integer> room = new ArrayList<>();
        List<Integer> strength = new ArrayList<>();
        List<Integer> worn = new ArrayList<>();
        List<Boolean> broken = new ArrayList<>();
        List<Body> people = new ArrayList<>();

        Country copy() {
            Country c = new Country();
            c.rungs = rungs;
            c.hour = hour;
            c.room.addAll(room);
            c.strength.addAll(strength);
            c.worn.addAll(worn);
            c.broken.addAll(broken);
            for (Body b : people) {
                c.people.add(b.copy());
            }
            return c;
        }

        int on(int r) {
            int n = 0;
            for (Body b : people) {
                if (b.rung == r) {
                    n++;
                }
            }
            return n;
        }

        int next(int r, int way) {
            if (r < 0) {
                return NONE;
            }
            int skipped = 0;
            for (int t = r + way; t >= 0 && t < rungs; t += way) {
                if (!broken.get(t)) {
                    return t;
                }
                skipped++;
                if (skipped > 1) {
                    return NONE;
                }
            }
            return NONE;
        }

        boolean roomOn(int r) {
            return on(r) < room.get(r);
        }

        void slip(Body b) {
            b.slips++;
            for (b.rung--; b.rung >= 0; b.rung--) {
                if (!broken.get(b.rung)) {
                    return;
                }
            }
            b.rung = NONE;
        }

        int slipsOfAll() {
            int n = 0;
            for (Body b : people) {
                n += b.slips;
            }
            return n;
        }

        int weights(int r) {
            int n = 0;
            for (Body b : people) {
                if (b.rung == r) {
                    n += b.weight;
                }
            }
            return n;
        }
    }

    static final class Body {
        int rung;
        int weight;
        int grip;
        int told;
        int want;
        int slips;

        Body copy() {
            Body b = new Body();
            b.rung = rung;
            b.weight = weight;
            b.grip = grip;
            b.told = told;
            b.want = want;
            b.slips = slips;
            return b;
        }
    }

    interface Sum {
        long of(Country c, int p);
    }

    interface Test {
        boolean of(Country c, int p);
    }

    static final class Clause {
        Sum sum;
        Test test;
    }

    static final class Snapshot {
        Country country;
        Country begin;
        int force;
        int x;
        List<int[]> notes;
    }

    private final List<Integer> tape = new ArrayList<>();
    private final List<List<Clause>> rules = new ArrayList<>();
    private final Snapshot[] images = new Snapshot[4];
    private final List<Country> undone = new ArrayList<>();
    private Country country;
    private Country begin;
    private int force = NONE;
    private int x;
    private List<int[]> notes = new ArrayList<>();

    // ---- texts

    private List<Token> tokens;
    private int at;
    private int values;

    private void cutTokens() {
        tokens = new ArrayList<>();
        at = 0;
        values = 0;
        StringBuilder all = new StringBuilder();
        for (int b : tape) {
            all.append((char) b);
        }
        String text = all.toString();
        int i = 0;
        while (i < text.length()) {
            if (text.charAt(i) == ' ') {
                i++;
                continue;
            }
            java.util.regex.Matcher m =
                java.util.regex.Pattern.compile("[a-z]+|[0-9]+|<=|>=|.", java.util.regex.Pattern.DOTALL).matcher(text);
            m.find(i);
            tokens.add(new Token(m.group(), i));
            i = m.end();
        }
        tokens.add(new Token("", text.length()));
    }

    private Token see() {
        return tokens.get(at);
    }

    private boolean take(String text) {
        if (see().text.equals(text)) {
            at++;
            return true;
        }
        return false;
    }

    private void must(boolean fine, int kind) throws Fault {
        if (!fine) {
            throw new Fault(see().place, kind);
        }
    }

    private int number() throws Fault {
        must(see().isNumber(), 0);
        must(see().text.length() <= 5, 1);
        return Integer.parseInt(see().text);
    }

    private int between(int least, int most) throws Fault {
        int n = number();
        must(n >= least && n <= most, 1);
        return n;
    }

    private Country readLadder() throws Fault {
        Country c = new Country();
        int clauses = 0;
        do {
            must(List.of("ladder", "rung", "broken", "person").contains(see().text), 0);
            String word = see().text;
            must(clauses < 40, 4);
            must(word.equals("ladder") ? clauses == 0 : clauses > 0, 4);
            must(!word.equals("person") || c.people.size() < 4, 4);
            clauses++;
            at++;
            readLadderClause(c, word);
        } while (take(";"));
        must(see().text.isEmpty(), 0);
        return c;
    }

    private void readLadderClause(Country c, String word) throws Fault {
        if (word.equals("ladder")) {
            c.rungs = between(3, 9);
            at++;
            for (int i = 0; i < c.rungs; i++) {
                c.room.add(2);
                c.strength.add(200);
                c.worn.add(0);
                c.broken.add(false);
            }
            return;
        }
        int r = between(0, c.rungs - 1);
        if (word.equals("rung")) {
            at++;
            int room = between(1, 4);
            must(room >= c.on(r), 1);
            at++;
            int strength = between(1, 999);
            at++;
            c.room.set(r, room);
            c.strength.set(r, strength);
        } else if (word.equals("broken")) {
            must(c.on(r) == 0, 1);
            at++;
            c.broken.set(r, true);
        } else {
            must(!c.broken.get(r) && c.roomOn(r), 1);
            Body b = new Body();
            b.rung = r;
            at++;
            b.weight = between(1, 20);
            at++;
            b.grip = between(1, 30);
            b.told = b.grip;
            at++;
            b.want = between(0, c.rungs - 1);
            at++;
            c.people.add(b);
        }
    }

    private List<Clause> readRule() throws Fault {
        List<Clause> all = new ArrayList<>();
        do {
            must(see().text.equals("climb"), 0);
            must(all.size() < 12, 4);
            at++;
            Clause c = new Clause();
            c.sum = readSum();
            if (take("if")) {
                c.test = readTest(0);
            }
            all.add(c);
        } while (take(";"));
        must(see().text.isEmpty(), 0);
        return all;
    }

    private Test readTest(int depth) throws Fault {
        Test left = readPart(depth);
        while (take("or")) {
            Test a = left;
            Test b = readPart(depth);
            left = (c, p) -> a.of(c, p) || b.of(c, p);
        }
        return left;
    }

    private Test readPart(int depth) throws Fault {
        Test left = readFact(depth);
        while (take("and")) {
            Test a = left;
            Test b = readFact(depth);
            left = (c, p) -> a.of(c, p) && b.of(c, p);
        }
        return left;
    }

    private Test readFact(int depth) throws Fault {
        String word = see().text;
        if (word.equals("not") || word.equals("[")) {
            must(depth < 10, 2);
            at++;
            if (word.equals("not")) {
                Test inner = readFact(depth + 1);
                return (c, p) -> !inner.of(c, p);
            }
            Test inner = readTest(depth + 1);
            must(take("]"), 0);
            return inner;
        }
        Sum a = readSum();
        String sign = see().text;
        must(List.of("<", "<=", "=", ">=", ">").contains(sign), 0);
        countOne();
        at++;
        Sum b = readSum();
        switch (sign) {
            case "<": return (c, p) -> a.of(c, p) < b.of(c, p);
            case "<=": return (c, p) -> a.of(c, p) <= b.of(c, p);
            case "=": return (c, p) -> a.of(c, p) == b.of(c, p);
            case ">=": return (c, p) -> a.of(c, p) >= b.of(c, p);
            default: return (c, p) -> a.of(c, p) > b.of(c, p);
        }
    }

    private void countOne() throws Fault {
        values++;
        must(values <= 60, 3);
    }

    private Sum readSum() throws Fault {
        Sum left = readTerm();
        while (see().text.equals("+") || see().text.equals("-")) {
            boolean plus = see().text.equals("+");
            at++;
            Sum a = left;
            Sum b = readTerm();
            left = plus ? (c, p) -> a.of(c, p) + b.of(c, p) : (c, p) -> a.of(c, p) - b.of(c, p);
        }
        return left;
    }

    private Sum readTerm() throws Fault {
        Sum left = readValue();
        while (List.of("*", "/", "%").contains(see().text)) {
            String sign = see().text;
            at++;
            Sum a = left;
            Sum b = readValue();
            if (sign.equals("*")) {
                left = (c, p) -> a.of(c, p) * b.of(c, p);
            } else if (sign.equals("/")) {
                left = (c, p) -> b.of(c, p) == 0 ? 0 : a.of(c, p) / b.of(c, p);
            } else {
                left = (c, p) -> b.of(c, p) == 0 ? 0 : a.of(c, p) % b.of(c, p);
            }
        }
        return left;
    }

    private Sum readValue() throws Fault {
        Token t = see();
        Sum sum;
        if (t.isNumber()) {
            long n = number();
            sum = (c, p) -> n;
        } else {
            sum = word(t.text);
            must(sum != null, 0);
        }
        countOne();
        at++;
        return sum;
    }

    private static Sum word(String word) {
        switch (word) {
            case "person": return (c, p) -> p;
            case "rung": return (c, p) -> c.people.get(p).rung;
            case "want": return (c, p) -> c.people.get(p).want;
            case "weight": return (c, p) -> c.people.get(p).weight;
            case "grip": return (c, p) -> c.people.get(p).grip;
            case "told": return (c, p) -> c.people.get(p).told;
            case "hour": return (c, p) -> c.hour;
            case "here": return (c, p) -> c.on(c.people.get(p).rung) - 1;
            case "above": return (c, p) -> onNext(c, p, 1);
            case "below": return (c, p) -> onNext(c, p, -1);
            case "worn": return (c, p) -> c.worn.get(c.people.get(p).rung);
            case "strength": return (c, p) -> c.strength.get(c.people.get(p).rung);
            case "slips": return (c, p) -> c.people.get(p).slips;
            default: return null;
        }
    }

    private static long onNext(Country c, int p, int way) {
        int r = c.next(c.people.get(p).rung, way);
        return r == NONE ? -1 : c.on(r);
    }

    // ---- hours

    /** What broke, from the highest on. */
    private static List<Integer> hourOf(Country c, List<Clause> rule) {
        int n = c.people.size();
        int[] will = new int[n];
        for (int p = 0; p < n; p++) {
            if (c.people.get(p).rung != NONE) {
                will[p] = willOf(c, p, rule);
            }
        }
        String[] did = new String[n];
        Arrays.fill(did, "stayed");
        for (int p = 0; p < n; p++) {
            if (will[p] == 0 || !did[p].equals("stayed")) {
                continue;
            }
            Body b = c.people.get(p);
            int goal = c.next(b.rung, will[p]);
            if (goal == NONE) {
                continue;
            }
            if (c.roomOn(goal)) {
                b.rung = goal;
                did[p] = "stepped";
                continue;
            }
            for (int q = 0; q < n; q++) {
                Body o = c.people.get(q);
                if (o.rung == goal && did[q].equals("stayed") && will[q] != 0 && c.next(o.rung, will[q]) == b.rung) {
                    o.rung = b.rung;
                    b.rung = goal;
                    did[p] = "passed";
                    did[q] = "passed";
                    break;
                }
            }
        }
        List<Integer> broke = wear(c);
        for (int p = 0; p < n; p++) {
            Body b = c.people.get(p);
            if (b.rung == NONE) {
                continue;
            }
            if (did[p].equals("stepped")) {
                b.grip--;
            } else if (did[p].equals("passed")) {
                b.grip -= 3;
            } else if (b.grip < b.told) {
                b.grip++;
            }
            if (b.grip <= 0) {
                c.slip(b);
                b.grip = b.told / 2 == 0 ? 1 : b.told / 2;
            }
        }
        c.hour++;
        return broke;
    }

    private static List<Integer> wear(Country c) {
        for (int r = 0; r < c.rungs; r++) {
            c.worn.set(r, c.worn.get(r) + c.weights(r));
        }
        List<Integer> broke = new ArrayList<>();
        for (int r = c.rungs - 1; r >= 0; r--) {
            if (!c.broken.get(r) && c.worn.get(r) >= c.strength.get(r)) {
                broke.add(r);
                split(c, r);
            }
        }
        return broke;
    }

    private static int split(Country c, int r) {
        int n = 0;
        c.broken.set(r, true);
        for (Body b : c.people) {
            if (b.rung == r) {
                c.slip(b);
                n++;
            }
        }
        return n;
    }

    private static int willOf(Country c, int p, List<Clause> rule) {
        Body b = c.people.get(p);
        if (rule == null) {
            return b.want > b.rung ? 1 : b.want < b.rung ? -1 : 0;
        }
        for (Clause clause : rule) {
            if (clause.test == null || clause.test.of(c, p)) {
                long sum = clause.sum.of(c, p);
                return sum > 0 ? 1 : sum < 0 ? -1 : 0;
            }
        }
        return 0;
    }

    private List<Clause> inForce() {
        return force == NONE ? null : rules.get(force);
    }

    // ---- the face

    public int feed(int a, int b, int c, int d, int e) {
        if (tape.size() > 380) {
            return NONE;
        }
        for (int n : new int[] {a, b, c, d, e}) {
            for (byte part : java.nio.ByteBuffer.allocate(4).putInt(n).array()) {
                tape.add(part & 255);
            }
        }
        return tape.size();
    }

    public int end(int n) {
        if (n < 0 || n > tape.size()) {
            return NONE;
        }
        tape.subList(n, tape.size()).clear();
        return n;
    }

    public int ladder() {
        cutTokens();
        tape.clear();
        try {
            begin = readLadder();
        } catch (Fault f) {
            return -2 - f.number;
        }
        country = begin.copy();
        notes = new ArrayList<>();
        undone.clear();
        return country.people.size();
    }

    public int rule() {
        if (rules.size() == 6) {
            return NONE;
        }
        cutTokens();
        tape.clear();
        try {
            rules.add(readRule());
        } catch (Fault f) {
            return -2 - f.number;
        }
        return rules.size() - 1;
    }

    public int force(int rule) {
        if (rule != NONE && (rule < 0 || rule >= rules.size())) {
            return -2;
        }
        int was = force;
        force = rule;
        return was;
    }

    private Body body(int p) {
        return country == null || p < 0 || p >= country.people.size() ? null : country.people.get(p);
    }

    private boolean noRung(int r) {
        return country == null || r < 0 || r >= country.rungs;
    }

    public int person(int person, int what) {
        Body b = body(person);
        if (b == null || what < 0 || what > 6) {
            return -2;
        }
        return new int[] {b.rung, b.weight, b.grip, b.want, b.slips, country.next(b.rung, 1),
            country.next(b.rung, -1)}[what];
    }

    public int rung(int rung, int what) {
        if (noRung(rung) || what < 0 || what > 5) {
            return NONE;
        }
        int bits = 0;
        for (int p = 0; p < country.people.size(); p++) {
            bits += country.people.get(p).rung == rung ? 1 << p : 0;
        }
        return new int[] {country.room.get(rung), country.strength.get(rung), country.worn.get(rung),
            country.broken.get(rung) ? 1 : 0, bits, country.weights(rung)}[what];
    }

    private void act() {
        undone.add(country.copy());
        if (undone.size() > 20) {
            undone.remove(0);
        }
    }

    public int hour() {
        if (country == null || country.hour == 999) {
            return NONE;
        }
        act();
        int ahead = country.slipsOfAll();
        hourOf(country, inForce());
        return country.slipsOfAll() - ahead;
    }

    private static int stepTo(Country c, int p, boolean up) {
        int r = c.next(c.people.get(p).rung, up ? 1 : -1);
        return r == NONE || !c.roomOn(r) ? NONE : r;
    }

    public int step(int person, boolean up) {
        if (body(person) == null || stepTo(country, person, up) == NONE) {
            return NONE;
        }
        act();
        int to = stepTo(country, person, up);
        country.people.get(person).rung = to;
        return to;
    }

    private static boolean mayPass(Country c, int a, int b) {
        int ra = c.people.get(a).rung;
        int rb = c.people.get(b).rung;
        return ra != NONE && rb != NONE && (c.next(ra, 1) == rb || c.next(rb, 1) == ra);
    }

    private static void exchange(Country c, int a, int b) {
        int r = c.people.get(a).rung;
        c.people.get(a).rung = c.people.get(b).rung;
        c.people.get(b).rung = r;
    }

    public boolean pass(int one, int other) {
        if (body(one) == null || body(other) == null || !mayPass(country, one, other)) {
            return false;
        }
        act();
        exchange(country, one, other);
        return true;
    }

    public int mend(int rung) {
        if (noRung(rung) || country.worn.get(rung) == 0 && !country.broken.get(rung)) {
            return NONE;
        }
        act();
        country.broken.set(rung, false);
        country.worn.set(rung, country.worn.get(rung) / 2);
        return country.worn.get(rung);
    }

    public int cut(int rung) {
        if (noRung(rung) || country.broken.get(rung)) {
            return NONE;
        }
        act();
        return split(country, rung);
    }

    public int aim(int person, int rung) {
        Body b = body(person);
        if (b == null || b.rung == NONE || noRung(rung) || b.want == rung) {
            return NONE;
        }
        act();
        int was = body(person).want;
        body(person).want = rung;
        return was;
    }

    public int undo() {
        if (undone.isEmpty()) {
            return NONE;
        }
        country = undone.remove(undone.size() - 1);
        return undone.size();
    }

    public int ahead(int person, int n, int what) {
        if (body(person) == null || n < 0 || n > 100 || what < 0 || what > 2) {
            return -2;
        }
        Country c = country.copy();
        for (int i = 0; i < n; i++) {
            hourOf(c, inForce());
        }
        Body b = c.people.get(person);
        return what == 0 ? b.rung : what == 1 ? b.grip : b.slips;
    }

    /** The rung and the hour; null if none breaks. */
    private int[] firstBreak(Country from) {
        Country c = from.copy();
        for (int i = 0; i < 200; i++) {
            List<Integer> broke = hourOf(c, inForce());
            if (!broke.isEmpty()) {
                return new int[] {broke.get(0), from.hour + i};
            }
        }
        return null;
    }

    public int breaks(int what) {
        if (country == null || what != 0 && what != 1) {
            return NONE;
        }
        int[] found = firstBreak(country);
        return found == null ? -2 : found[what];
    }

    private boolean noSet(int people) {
        return country == null || people < 0 || people >> country.people.size() != 0;
    }

    private static String placeOf(Country c) {
        StringBuilder s = new StringBuilder();
        for (Body b : c.people) {
            s.append(b.rung).append(' ');
        }
        return s.toString();
    }

    private static boolean arrived(Country c, int people) {
        for (int p = 0; p < c.people.size(); p++) {
            Body b = c.people.get(p);
            if ((people >> p) % 2 == 1 && b.rung != b.want) {
                return false;
            }
        }
        return true;
    }

    /** All moves from a place: person, kind, other; and the places that they lead to. */
    private static Map<int[], Country> movesFrom(Country c) {
        Map<int[], Country> all = new LinkedHashMap<>();
        for (int p = 0; p < c.people.size(); p++) {
            for (int kind = 0; kind < 2; kind++) {
                int to = stepTo(c, p, kind == 0);
                if (to != NONE) {
                    Country next = c.copy();
                    next.people.get(p).rung = to;
                    all.put(new int[] {p, kind, NONE}, next);
                }
            }
            for (int q = p + 1; q < c.people.size(); q++) {
                if (mayPass(c, p, q)) {
                    Country next = c.copy();
                    exchange(next, p, q);
                    all.put(new int[] {p, 2, q}, next);
                }
            }
        }
        return all;
    }

    private static final Comparator<List<int[]>> ROWS = (a, b) -> {
        for (int i = 0; i < a.size(); i++) {
            int order = Arrays.compare(a.get(i), b.get(i));
            if (order != 0) {
                return order;
            }
        }
        return 0;
    };

    /** The least of the shortest rows, each place's least row of each length being kept; null: none. */
    private List<int[]> firstRow(int people) {
        Map<String, List<int[]>> rows = new HashMap<>();
        Map<String, Country> layer = new HashMap<>();
        layer.put(placeOf(country), country);
        rows.put(placeOf(country), new ArrayList<>());
        while (!layer.isEmpty()) {
            List<int[]> best = null;
            for (Map.Entry<String, Country> e : layer.entrySet()) {
                List<int[]> row = rows.get(e.getKey());
                if (arrived(e.getValue(), people) && (best == null || ROWS.compare(row, best) < 0)) {
                    best = row;
                }
            }
            if (best != null) {
                return best;
            }
            Map<String, Country> next = new HashMap<>();
            for (Map.Entry<String, Country> e : layer.entrySet()) {
                for (Map.Entry<int[], Country> m : movesFrom(e.getValue()).entrySet()) {
                    String key = placeOf(m.getValue());
                    if (rows.containsKey(key) && !next.containsKey(key)) {
                        continue;
                    }
                    List<int[]> row = new ArrayList<>(rows.get(e.getKey()));
                    row.add(m.getKey());
                    if (!next.containsKey(key) || ROWS.compare(row, rows.get(key)) < 0) {
                        next.put(key, m.getValue());
                        rows.put(key, row);
                    }
                }
            }
            layer = next;
        }
        return null;
    }

    private boolean hasFallenAmong(int people) {
        for (int p = 0; p < country.people.size(); p++) {
            if ((people >> p) % 2 == 1 && country.people.get(p).rung == NONE) {
                return true;
            }
        }
        return false;
    }

    public int moves(int people) {
        if (noSet(people)) {
            return NONE;
        }
        List<int[]> row = hasFallenAmong(people) ? null : firstRow(people);
        return row == null ? -2 : row.size();
    }

    public int move(int people, int k, int what) {
        if (noSet(people) || k < 0 || what < 0 || what > 2) {
            return -3;
        }
        List<int[]> row = hasFallenAmong(people) ? null : firstRow(people);
        return row == null || k >= row.size() ? -2 : row.get(k)[what];
    }

    public int squeeze(int people) {
        if (noSet(people)) {
            return NONE;
        }
        if (hasFallenAmong(people)) {
            return -2;
        }
        Map<String, Integer> cost = new HashMap<>();
        java.util.PriorityQueue<Object[]> open =
            new java.util.PriorityQueue<>((a, b) -> Integer.compare((Integer) a[0], (Integer) b[0]));
        open.add(new Object[] {0, country});
        while (!open.isEmpty()) {
            Object[] top = open.poll();
            Country c = (Country) top[1];
            if (cost.putIfAbsent(placeOf(c), (Integer) top[0]) != null) {
                continue;
            }
            if (arrived(c, people)) {
                return (Integer) top[0];
            }
            for (Map.Entry<int[], Country> m : movesFrom(c).entrySet()) {
                if (!cost.containsKey(placeOf(m.getValue()))) {
                    open.add(new Object[] {(Integer) top[0] + (m.getKey()[1] == 2 ? 1 : 0), m.getValue()});
                }
            }
        }
        return -2;
    }

    public int mending(int what) {
        if (country == null || what != 0 && what != 1) {
            return -3;
        }
        int[] best = null;
        for (int r = 0; r < country.rungs; r++) {
            if (country.worn.get(r) == 0 && !country.broken.get(r)) {
                continue;
            }
            Country c = country.copy();
            c.worn.set(r, c.worn.get(r) / 2);
            c.broken.set(r, false);
            int[] found = firstBreak(c);
            int when = found == null ? 1000000 : found[1];
            if (best == null || when > best[1]) {
                best = new int[] {r, when};
            }
        }
        if (best == null) {
            return -2;
        }
        return what == 0 ? best[0] : best[1] == 1000000 ? NONE : best[1];
    }

    private static int capitalOf(Country c) {
        int best = NONE;
        for (int r = c.rungs - 1; r >= 0; r--) {
            if (c.on(r) > 0 && (best == NONE || c.on(r) >= c.on(best))) {
                best = r;
            }
        }
        return best;
    }

    public int capital() {
        return country == null ? NONE : capitalOf(country);
    }

    public int ballot() {
        if (country == null) {
            return NONE;
        }
        int bits = capitalOf(country) == NONE ? 0 : 1 << capitalOf(country);
        for (Map.Entry<int[], Country> m : movesFrom(country).entrySet()) {
            if (m.getKey()[1] != 2) {
                bits |= 1 << capitalOf(m.getValue());
            }
        }
        return bits;
    }

    private static int lowest(Country c, int invader, int turns) {
        if (turns == 0) {
            return invader;
        }
        int best = lowest(c, climb(c, invader), turns - 1);
        for (Map.Entry<int[], Country> m : movesFrom(c).entrySet()) {
            if (m.getKey()[1] != 2) {
                best = Math.min(best, lowest(m.getValue(), climb(m.getValue(), invader), turns - 1));
            }
        }
        return best;
    }

    private static int climb(Country c, int invader) {
        int up = invader + 1;
        return up < c.rungs && c.roomOn(up) ? up : invader;
    }

    public int hold(int n, int what) {
        if (country == null || n < 1 || n > 4 || what < 0 || what > 1) {
            return -2;
        }
        int best = lowest(country, NONE, n);
        if (what == 0) {
            return best;
        }
        if (lowest(country, climb(country, NONE), n - 1) == best) {
            return NONE;
        }
        int code = 1000;
        for (Map.Entry<int[], Country> m : movesFrom(country).entrySet()) {
            Country c = m.getValue();
            if (m.getKey()[1] != 2 && lowest(c, climb(c, NONE), n - 1) == best) {
                code = Math.min(code, 2 * m.getKey()[0] + m.getKey()[1]);
            }
        }
        return code;
    }

    public int goods(int from, int to) {
        if (noRung(from) || noRung(to)) {
            return NONE;
        }
        if (from == to) {
            return country.hour;
        }
        Country c = country.copy();
        int lie = from;
        for (int i = 0; i < 200; i++) {
            hourOf(c, inForce());
            int next = lie < to ? lie + 1 : lie - 1;
            if (c.on(lie) > 0 && c.on(next) > 0) {
                lie = next;
                if (lie == to) {
                    return c.hour - 1;
                }
            }
        }
        return -2;
    }

    public int stand(int rung, int weight) {
        if (noRung(rung) || country.broken.get(rung) || weight < 1 || weight > 20) {
            return NONE;
        }
        int worn = country.worn.get(rung);
        int hours = 0;
        do {
            worn += weight + country.weights(rung);
            hours++;
        } while (worn < country.strength.get(rung));
        return hours;
    }

    public int note(int n, int rung, int many) {
        if (n == NONE) {
            notes = new ArrayList<>();
            return 0;
        }
        if (n < 0 || n > 60 || noRung(rung) || many < 0 || many > 4 || notes.size() == 10) {
            return -2;
        }
        notes = new ArrayList<>(notes);
        notes.add(new int[] {n, rung, many});
        return notes.size();
    }

    private Country atHour(int rule, int n) {
        Country c = begin.copy();
        for (int i = 0; i < n; i++) {
            hourOf(c, rule == NONE ? null : rules.get(rule));
        }
        return c;
    }

    private List<Integer> fitting() {
        List<Integer> all = new ArrayList<>();
        for (int rule = NONE; rule < rules.size(); rule++) {
            boolean fits = true;
            for (int[] note : notes) {
                fits = fits && atHour(rule, note[0]).on(note[1]) == note[2];
            }
            if (fits) {
                all.add(rule);
            }
        }
        return all;
    }

    public int ruled(int what) {
        if (country == null || what != 0 && what != 1) {
            return -3;
        }
        List<Integer> all = fitting();
        return what == 0 ? all.size() : all.isEmpty() ? -2 : all.get(0);
    }

    public int look(int n, int what) {
        if (country == null || n < 0 || n > 60 || what < 0 || what > 1) {
            return NONE;
        }
        List<Integer> all = fitting();
        if (all.isEmpty()) {
            return -2;
        }
        int[] best = null;
        for (int r = 0; r < country.rungs; r++) {
            Map<Integer, Integer> groups = new HashMap<>();
            for (int rule : all) {
                groups.merge(atHour(rule, n).on(r), 1, Integer::sum);
            }
            int most = java.util.Collections.max(groups.values());
            if (best == null || most < best[1]) {
                best = new int[] {r, most};
            }
        }
        return best[what];
    }

    public int seed(int to) {
        if (to < 0) {
            return NONE;
        }
        int was = x;
        x = to;
        return was;
    }

    public int years(int m, int n, int p, int what) {
        if (country == null || m < 1 || m > 10 || n < 1 || n > 60 || p < 0 || p > 100 || what < 0 || what > 1) {
            return NONE;
        }
        java.math.BigInteger y = java.math.BigInteger.valueOf(x);
        int slips = 0;
        int falls = 0;
        for (int i = 0; i < m; i++) {
            Country c = country.copy();
            for (int j = 0; j < n; j++) {
                for (Body b : c.people) {
                    if (b.rung == NONE) {
                        continue;
                    }
                    y = y.multiply(java.math.BigInteger.valueOf(1103515245)).add(java.math.BigInteger.valueOf(12345))
                        .mod(java.math.BigInteger.ONE.shiftLeft(31));
                    if (y.intValue() / 65536 % 100 < p && b.grip > 1) {
                        b.grip--;
                    }
                }
                List<Body> stood = new ArrayList<>(c.people);
                stood.removeIf(b -> b.rung == NONE);
                int slipsAhead = c.slipsOfAll();
                hourOf(c, inForce());
                slips += c.slipsOfAll() - slipsAhead;
                for (Body b : stood) {
                    falls += b.rung == NONE ? 1 : 0;
                }
            }
        }
        return what == 0 ? slips : falls;
    }

    public int count(int what) {
        Country c = country == null ? new Country() : country;
        int left = 0;
        for (int p = 0; p < c.people.size(); p++) {
            left += c.people.get(p).rung == NONE ? 0 : 1 << p;
        }
        int broken = 0;
        int worn = 0;
        for (int r = 0; r < c.rungs; r++) {
            broken += c.broken.get(r) ? 1 << r : 0;
            worn += c.worn.get(r);
        }
        int[] all = {c.rungs, c.people.size(), left, broken, rules.size(), force, c.hour, c.slipsOfAll(), worn,
            notes.size(), undone.size(), x, tape.size()};
        return what < 0 || what >= all.length ? NONE : all[what];
    }

    public int image(int k) {
        if (k < 0 || k > 3) {
            return NONE;
        }
        Snapshot s = new Snapshot();
        s.country = country == null ? null : country.copy();
        s.begin = begin;
        s.force = force;
        s.x = x;
        s.notes = new ArrayList<>(notes);
        images[k] = s;
        return country == null ? 0 : country.hour;
    }

    public int back(int k) {
        if (k < 0 || k > 3 || images[k] == null) {
            return NONE;
        }
        Snapshot s = images[k];
        country = s.country == null ? null : s.country.copy();
        begin = s.begin;
        force = s.force;
        x = s.x;
        notes = new ArrayList<>(s.notes);
        undone.clear();
        return country == null ? 0 : country.hour;
    }
}
