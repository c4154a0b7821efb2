import java.util.Arrays;

/** A republic on the rungs of a ladder; ../shared/DOC.md tells what each call answers. */
public final class LadderLand {
    public static final int NONE = -1;

    /** The document's second and third "no", where NONE is an answer or a no of its own. */
    private static final int MISSING = -2;
    private static final int REFUSED = -3;

    private static final int MOST_BYTES = 400;
    private static final int FED_BYTES = 20;
    private static final int MOST_RUNGS = 9;
    private static final int MOST_PEOPLE = 4;
    private static final int MOST_RULES = 6;
    private static final int MOST_NOTES = 10;
    private static final int MOST_IMAGES = 4;
    private static final int MOST_UNDONE = 20;
    private static final int MOST_LADDER_CLAUSES = 40;
    private static final int MOST_RULE_CLAUSES = 12;
    private static final int MOST_DEPTH = 10;
    private static final int MOST_VALUES = 60;
    private static final int LAST_HOUR = 999;
    private static final int HOURS_AHEAD = 100;
    private static final int HOURS_FORESEEN = 200;
    private static final int LAST_NOTED_HOUR = 60;
    private static final int MOST_WEIGHT = 20;

    private static final int UP = 1;
    private static final int DOWN = -1;

    private static final int FAULT_PLACE = 0;
    private static final int FAULT_NUMBER = 1;
    private static final int FAULT_DEPTH = 2;
    private static final int FAULT_VALUES = 3;
    private static final int FAULT_CLAUSE = 4;

    private final Tape tape;
    private final LadderReader ladderReader;
    private final RuleReader ruleReader;
    private final Rule[] rules;
    private int ruleCount;
    private final State now;
    private final State[] images;
    /** The worlds ahead of the last acts, as a ring: pastNext is where the next one goes. */
    private final World[] past;
    private int pastNext;
    private int pastCount;
    private final Hours hours;
    private final Outlook outlook;
    private final Paths paths;
    private final Siege siege;

    public LadderLand() {
        Ladder nothing = new Ladder();
        tape = new Tape();
        ladderReader = new LadderReader(tape);
        ruleReader = new RuleReader(tape);
        rules = new Rule[MOST_RULES];
        now = new State(nothing);
        images = new State[MOST_IMAGES];
        for (int k = 0; k < MOST_IMAGES; k++) {
            images[k] = new State(nothing);
        }
        past = new World[MOST_UNDONE];
        for (int k = 0; k < MOST_UNDONE; k++) {
            past[k] = new World(nothing);
        }
        hours = new Hours();
        outlook = new Outlook(hours, new World(nothing));
        paths = new Paths(now.world);
        siege = new Siege(new World(nothing));
    }

    public int feed(int a, int b, int c, int d, int e) {
        if (tape.length + FED_BYTES > MOST_BYTES) {
            return NONE;
        }
        tape.append(a);
        tape.append(b);
        tape.append(c);
        tape.append(d);
        tape.append(e);
        return tape.length;
    }

    public int end(int n) {
        if (n < 0 || n > tape.length) {
            return NONE;
        }
        tape.length = n;
        return n;
    }

    public int ladder() {
        Ladder told = new Ladder();
        boolean fine = ladderReader.readInto(told);
        tape.length = 0;
        if (!fine) {
            return MISSING - tape.fault;
        }
        now.world.begin(told);
        now.notes = 0;
        pastCount = 0;
        return told.people;
    }

    public int rule() {
        if (ruleCount >= MOST_RULES) {
            return NONE;
        }
        boolean fine = ruleReader.readText();
        tape.length = 0;
        if (!fine) {
            return MISSING - tape.fault;
        }
        rules[ruleCount] = ruleReader.made();
        ruleCount++;
        return ruleCount - 1;
    }

    public int force(int rule) {
        if (rule < NONE || rule >= ruleCount) {
            return MISSING;
        }
        int former = now.force;
        now.force = rule;
        return former;
    }

    public int person(int person, int what) {
        World world = now.world;
        if (!isPerson(person)) {
            return MISSING;
        }
        switch (what) {
            case 0: return world.rung[person];
            case 1: return world.ladder.weight[person];
            case 2: return world.grip[person];
            case 3: return world.want[person];
            case 4: return world.slips[person];
            case 5: return world.beside(world.rung[person], UP);
            case 6: return world.beside(world.rung[person], DOWN);
            default: return MISSING;
        }
    }

    public int rung(int rung, int what) {
        World world = now.world;
        if (!isRung(rung)) {
            return NONE;
        }
        switch (what) {
            case 0: return world.ladder.room[rung];
            case 1: return world.ladder.strength[rung];
            case 2: return world.worn[rung];
            case 3: return world.isBroken(rung) ? 1 : 0;
            case 4: return world.whoIsOn(rung);
            case 5: return world.weightOn(rung);
            default: return NONE;
        }
    }

    public int hour() {
        if (!hasLadder() || now.world.hour >= LAST_HOUR) {
            return NONE;
        }
        remember();
        return hours.spend(now.world, inForce());
    }

    public int step(int person, boolean up) {
        if (!isPerson(person)) {
            return NONE;
        }
        int goal = now.world.stepGoal(person, up ? UP : DOWN);
        if (goal == NONE) {
            return NONE;
        }
        remember();
        now.world.rung[person] = goal;
        return goal;
    }

    public boolean pass(int one, int other) {
        if (!isPerson(one) || !isPerson(other) || !now.world.canPass(one, other)) {
            return false;
        }
        remember();
        now.world.swap(one, other);
        return true;
    }

    public int mend(int rung) {
        if (!isRung(rung) || !now.world.needsMending(rung)) {
            return NONE;
        }
        remember();
        now.world.repair(rung);
        return now.world.worn[rung];
    }

    public int cut(int rung) {
        if (!isRung(rung) || now.world.isBroken(rung)) {
            return NONE;
        }
        remember();
        return now.world.split(rung);
    }

    public int aim(int person, int rung) {
        if (!isPerson(person) || !isRung(rung) || now.world.hasFallen(person)) {
            return NONE;
        }
        int former = now.world.want[person];
        if (former == rung) {
            return NONE;
        }
        remember();
        now.world.want[person] = rung;
        return former;
    }

    public int undo() {
        if (pastCount <= 0) {
            return NONE;
        }
        pastCount--;
        pastNext = pastNext > 0 ? pastNext - 1 : MOST_UNDONE - 1;
        now.world.copyFrom(past[pastNext]);
        return pastCount;
    }

    public int ahead(int person, int n, int what) {
        if (!isPerson(person) || n < 0 || n > HOURS_AHEAD || what < 0 || what > 2) {
            return MISSING;
        }
        World then = outlook.after(now.world, inForce(), n);
        switch (what) {
            case 0: return then.rung[person];
            case 1: return then.grip[person];
            default: return then.slips[person];
        }
    }

    public int breaks(int what) {
        if (!hasLadder() || what < 0 || what > 1) {
            return NONE;
        }
        if (!outlook.foreseesBreak(now.world, NONE, inForce())) {
            return MISSING;
        }
        return what == 0 ? outlook.brokenRung : outlook.brokenHour;
    }

    public int moves(int people) {
        if (!hasLadder() || !isSet(people)) {
            return NONE;
        }
        return paths.fewestMoves(people);
    }

    public int move(int people, int k, int what) {
        if (!hasLadder() || !isSet(people) || k < 0 || what < 0 || what > 2) {
            return REFUSED;
        }
        if (k >= paths.fewestMoves(people)) {
            return MISSING;
        }
        return paths.toldMove(k, what);
    }

    public int squeeze(int people) {
        if (!hasLadder() || !isSet(people)) {
            return NONE;
        }
        return paths.fewestPasses(people);
    }

    public int mending(int what) {
        if (!hasLadder() || what < 0 || what > 1) {
            return REFUSED;
        }
        outlook.findMending(now.world, inForce());
        return what == 0 ? outlook.mendedRung : outlook.mendedHour;
    }

    public int capital() {
        return now.world.fullestRung();
    }

    public int ballot() {
        return hasLadder() ? siege.possibleCapitals(now.world) : NONE;
    }

    public int hold(int n, int what) {
        if (!hasLadder() || n < 1 || n > 4 || what < 0 || what > 1) {
            return MISSING;
        }
        int height = siege.lowestHeight(now.world, n);
        return what == 0 ? height : siege.firstStep;
    }

    public int goods(int from, int to) {
        if (!isRung(from) || !isRung(to)) {
            return NONE;
        }
        return outlook.goodsHour(now.world, inForce(), from, to);
    }

    public int stand(int rung, int weight) {
        if (!isRung(rung) || now.world.isBroken(rung) || weight < 1 || weight > MOST_WEIGHT) {
            return NONE;
        }
        return now.world.hoursBorne(rung, weight);
    }

    public int note(int n, int rung, int many) {
        if (n == NONE) {
            now.notes = 0;
            return 0;
        }
        if (n < 0 || n > LAST_NOTED_HOUR || !isRung(rung) || many < 0 || many > MOST_PEOPLE) {
            return MISSING;
        }
        return now.addNote(n, rung, many);
    }

    public int ruled(int what) {
        if (!hasLadder() || what < 0 || what > 1) {
            return REFUSED;
        }
        outlook.tryRules(now, rules, ruleCount, 0);
        return what == 0 ? outlook.fittingCount : outlook.firstFitting;
    }

    public int look(int n, int what) {
        if (!hasLadder() || n < 0 || n > LAST_NOTED_HOUR || what < 0 || what > 1) {
            return NONE;
        }
        outlook.tryRules(now, rules, ruleCount, n);
        if (outlook.fittingCount == 0) {
            return MISSING;
        }
        outlook.findPartingRung(now.world.ladder.rungs);
        return what == 0 ? outlook.partingRung : outlook.mostAlike;
    }

    public int seed(int x) {
        if (x < 0) {
            return NONE;
        }
        int former = now.x;
        now.x = x;
        return former;
    }

    public int years(int m, int n, int p, int what) {
        if (!hasLadder() || m < 1 || m > 10 || n < 1 || n > 60) {
            return NONE;
        }
        if (p < 0 || p > 100 || what < 0 || what > 1) {
            return NONE;
        }
        outlook.blow(now, inForce(), m, n, p);
        return what == 0 ? outlook.windSlips : outlook.windFalls;
    }

    public int count(int what) {
        World world = now.world;
        switch (what) {
            case 0: return world.ladder.rungs;
            case 1: return world.ladder.people;
            case 2: return world.whoIsLeft();
            case 3: return world.broken;
            case 4: return ruleCount;
            case 5: return now.force;
            case 6: return world.hour;
            case 7: return world.allSlips();
            case 8: return world.allWorn();
            case 9: return now.notes;
            case 10: return pastCount;
            case 11: return now.x;
            case 12: return tape.length;
            default: return NONE;
        }
    }

    public int image(int k) {
        if (k < 0 || k >= MOST_IMAGES) {
            return NONE;
        }
        images[k].copyFrom(now);
        images[k].made = true;
        return now.world.hour;
    }

    public int back(int k) {
        if (k < 0 || k >= MOST_IMAGES || !images[k].made) {
            return NONE;
        }
        now.copyFrom(images[k]);
        pastCount = 0;
        return now.world.hour;
    }

    private boolean hasLadder() {
        return now.world.ladder.rungs > 0;
    }

    private boolean isPerson(int person) {
        return person >= 0 && person < now.world.ladder.people;
    }

    private boolean isRung(int rung) {
        return rung >= 0 && rung < now.world.ladder.rungs;
    }

    private boolean isSet(int people) {
        return people >= 0 && people < 1 << now.world.ladder.people;
    }

    private Rule inForce() {
        int force = now.force;
        return force >= 0 && force < ruleCount ? rules[force] : null;
    }

    private void remember() {
        past[pastNext].copyFrom(now.world);
        pastNext = pastNext < MOST_UNDONE - 1 ? pastNext + 1 : 0;
        pastCount = Math.min(MOST_UNDONE, pastCount + 1);
    }

    /** The bytes that were fed, and where a reader is in them: always at one word, number or sign. */
    private static final class Tape {
        static final int AT_END = 0;
        static final int AT_WORD = 1;
        static final int AT_NUMBER = 2;
        static final int AT_SIGN = 3;
        /** What a sign's byte is raised by, if = stands right behind < or >. */
        static final int OR_EQUAL = 256;
        private static final int MOST_DIGITS = 5;

        final int[] bytes = new int[MOST_BYTES];
        int length;
        int kind;
        int sign;
        int fault;
        private int start;
        private int stop;

        void append(int four) {
            for (int shift = 24; shift >= 0; shift -= 8) {
                if (length < MOST_BYTES) {
                    bytes[length] = four >>> shift & 255;
                    length++;
                }
            }
        }

        void open() {
            fault = 0;
            stop = 0;
            advance();
        }

        void advance() {
            start = stop;
            while (start < length && bytes[start] == ' ') {
                start++;
            }
            stop = start;
            if (start >= length) {
                kind = AT_END;
                return;
            }
            sign = bytes[start];
            stop++;
            boolean isLetter = sign >= 'a' && sign <= 'z';
            if (isLetter || sign >= '0' && sign <= '9') {
                kind = isLetter ? AT_WORD : AT_NUMBER;
                int least = isLetter ? 'a' : '0';
                int most = isLetter ? 'z' : '9';
                while (stop < length && bytes[stop] >= least && bytes[stop] <= most) {
                    stop++;
                }
                return;
            }
            kind = AT_SIGN;
            if ((sign == '<' || sign == '>') && stop < length && bytes[stop] == '=') {
                sign += OR_EQUAL;
                stop++;
            }
        }

        boolean isAt(char wanted) {
            return kind == AT_SIGN && sign == wanted;
        }

        /** The number of the word at hand in a row of words, each with a blank behind it. */
        int wordIn(String row) {
            if (kind != AT_WORD) {
                return NONE;
            }
            int number = 0;
            int at = start;
            boolean alike = true;
            for (int i = 0; i < row.length(); i++) {
                char letter = row.charAt(i);
                if (letter != ' ') {
                    alike = alike && at < stop && bytes[at] == letter;
                    at++;
                } else if (alike && at == stop) {
                    return number;
                } else {
                    number++;
                    at = start;
                    alike = true;
                }
            }
            return NONE;
        }

        boolean isAtWord(String wordAndBlank) {
            return wordIn(wordAndBlank) == 0;
        }

        /** NONE for too many digits, which is below every number that a text may want. */
        int numberAtHand() {
            if (stop - start > MOST_DIGITS) {
                return NONE;
            }
            int value = 0;
            for (int i = start; i < stop; i++) {
                value = value * 10 + bytes[i] - '0';
            }
            return value;
        }

        /** Always false, so that a reader can end with it. */
        boolean refuse(int why) {
            fault = 1 + 8 * start + why;
            return false;
        }
    }

    /** What a text told of a ladder; without rungs it stands for no ladder. Nothing changes it later. */
    private static final class Ladder {
        int rungs;
        int people;
        int startBroken;
        final int[] room = new int[MOST_RUNGS];
        final int[] strength = new int[MOST_RUNGS];
        final int[] weight = new int[MOST_PEOPLE];
        final int[] told = new int[MOST_PEOPLE];
        final int[] startRung = new int[MOST_PEOPLE];
        final int[] startWant = new int[MOST_PEOPLE];

        Ladder() {
            Arrays.fill(room, 2);
            Arrays.fill(strength, 200);
        }

        int crowdAtStart(int rung) {
            int many = 0;
            for (int p = 0; p < people; p++) {
                if (startRung[p] == rung) {
                    many++;
                }
            }
            return many;
        }

        boolean takesPerson(int rung) {
            return (startBroken >> rung & 1) == 0 && crowdAtStart(rung) < room[rung];
        }
    }

    /** Reads a ladder off the tape; the tape keeps the fault. */
    private static final class LadderReader {
        private static final String CLAUSES = "ladder rung broken person ";
        private static final int LADDER = 0;
        private static final int RUNG = 1;
        private static final int BROKEN = 2;
        private static final int PERSON = 3;

        private final Tape tape;

        LadderReader(Tape tape) {
            this.tape = tape;
        }

        boolean readInto(Ladder ladder) {
            tape.open();
            for (int n = 0; n <= MOST_LADDER_CLAUSES; n++) {
                if (!readClause(ladder, n)) {
                    return false;
                }
                if (tape.kind == Tape.AT_END) {
                    return true;
                }
                if (!tape.isAt(';')) {
                    return tape.refuse(FAULT_PLACE);
                }
                tape.advance();
            }
            return false;
        }

        private boolean readClause(Ladder ladder, int n) {
            int clause = tape.wordIn(CLAUSES);
            if (clause == NONE) {
                return tape.refuse(FAULT_PLACE);
            }
            if (n >= MOST_LADDER_CLAUSES || (n == 0) != (clause == LADDER)) {
                return tape.refuse(FAULT_CLAUSE);
            }
            if (clause == PERSON && ladder.people >= MOST_PEOPLE) {
                return tape.refuse(FAULT_CLAUSE);
            }
            tape.advance();
            switch (clause) {
                case LADDER: return readRungs(ladder);
                case RUNG: return readRung(ladder);
                case BROKEN: return readBroken(ladder);
                default: return readPerson(ladder);
            }
        }

        /** Stays at the number, so that what only its reader knows can be refused at its place. */
        private int number(int least, int most) {
            if (tape.kind != Tape.AT_NUMBER) {
                tape.refuse(FAULT_PLACE);
                return NONE;
            }
            int value = tape.numberAtHand();
            if (value < least || value > most) {
                tape.refuse(FAULT_NUMBER);
                return NONE;
            }
            return value;
        }

        private boolean readRungs(Ladder ladder) {
            int rungs = number(3, MOST_RUNGS);
            if (rungs == NONE) {
                return false;
            }
            ladder.rungs = rungs;
            tape.advance();
            return true;
        }

        private boolean readRung(Ladder ladder) {
            int rung = number(0, ladder.rungs - 1);
            if (rung == NONE) {
                return false;
            }
            tape.advance();
            int room = number(Math.max(1, ladder.crowdAtStart(rung)), 4);
            if (room == NONE) {
                return false;
            }
            tape.advance();
            int strength = number(1, 999);
            if (strength == NONE) {
                return false;
            }
            tape.advance();
            ladder.room[rung] = room;
            ladder.strength[rung] = strength;
            return true;
        }

        private boolean readBroken(Ladder ladder) {
            int rung = number(0, ladder.rungs - 1);
            if (rung == NONE) {
                return false;
            }
            if (ladder.crowdAtStart(rung) > 0) {
                return tape.refuse(FAULT_NUMBER);
            }
            tape.advance();
            ladder.startBroken |= 1 << rung;
            return true;
        }

        private boolean readPerson(Ladder ladder) {
            int rung = number(0, ladder.rungs - 1);
            if (rung == NONE) {
                return false;
            }
            if (!ladder.takesPerson(rung)) {
                return tape.refuse(FAULT_NUMBER);
            }
            tape.advance();
            int weight = number(1, MOST_WEIGHT);
            if (weight == NONE) {
                return false;
            }
            tape.advance();
            int grip = number(1, 30);
            if (grip == NONE) {
                return false;
            }
            tape.advance();
            int want = number(0, ladder.rungs - 1);
            if (want == NONE || ladder.people >= MOST_PEOPLE) {
                return false;
            }
            tape.advance();
            int person = ladder.people;
            ladder.startRung[person] = rung;
            ladder.weight[person] = weight;
            ladder.told[person] = grip;
            ladder.startWant[person] = want;
            ladder.people++;
            return true;
        }
    }

    /** Reads a rule off the tape into a row in which each sign stands behind what it joins. */
    private static final class RuleReader {
        private final Tape tape;
        private final int[] code = new int[MOST_BYTES];
        private final int[] sumEnd = new int[MOST_RULE_CLAUSES];
        private final int[] testEnd = new int[MOST_RULE_CLAUSES];
        private int size;
        private int clauses;
        private int values;

        RuleReader(Tape tape) {
            this.tape = tape;
        }

        Rule made() {
            return new Rule(Arrays.copyOf(code, size), Arrays.copyOf(sumEnd, clauses),
                Arrays.copyOf(testEnd, clauses));
        }

        boolean readText() {
            size = 0;
            clauses = 0;
            values = 0;
            tape.open();
            for (int n = 0; n <= MOST_RULE_CLAUSES; n++) {
                if (!tape.isAtWord("climb ")) {
                    return tape.refuse(FAULT_PLACE);
                }
                if (clauses >= MOST_RULE_CLAUSES) {
                    return tape.refuse(FAULT_CLAUSE);
                }
                tape.advance();
                if (!readSum()) {
                    return false;
                }
                sumEnd[clauses] = size;
                if (tape.isAtWord("if ")) {
                    tape.advance();
                    if (!readTest(0)) {
                        return false;
                    }
                }
                testEnd[clauses] = size;
                clauses++;
                if (tape.kind == Tape.AT_END) {
                    return true;
                }
                if (!tape.isAt(';')) {
                    return tape.refuse(FAULT_PLACE);
                }
                tape.advance();
            }
            return false;
        }

        /** An or waits till its right part is whole, since each and binds closer. */
        private boolean readTest(int depth) {
            if (!readFact(depth)) {
                return false;
            }
            boolean orWaits = false;
            for (int n = 0; n < MOST_BYTES; n++) {
                boolean isAnd = tape.isAtWord("and ");
                if (!isAnd && !tape.isAtWord("or ")) {
                    break;
                }
                if (!isAnd && orWaits) {
                    emit(Rule.SIGN, Rule.OR);
                }
                orWaits = orWaits || !isAnd;
                tape.advance();
                if (!readFact(depth)) {
                    return false;
                }
                if (isAnd) {
                    emit(Rule.SIGN, Rule.AND);
                }
            }
            if (orWaits) {
                emit(Rule.SIGN, Rule.OR);
            }
            return true;
        }

        private boolean readFact(int depth) {
            boolean isNot = tape.isAtWord("not ");
            if (!isNot && !tape.isAt('[')) {
                return readComparison();
            }
            if (depth >= MOST_DEPTH) {
                return tape.refuse(FAULT_DEPTH);
            }
            tape.advance();
            return isNot ? readNegated(depth + 1) : readBracketed(depth + 1);
        }

        private boolean readNegated(int depth) {
            boolean fine = readFact(depth);
            emit(Rule.SIGN, Rule.NOT);
            return fine;
        }

        private boolean readBracketed(int depth) {
            if (!readTest(depth)) {
                return false;
            }
            if (!tape.isAt(']')) {
                return tape.refuse(FAULT_PLACE);
            }
            tape.advance();
            return true;
        }

        private boolean readComparison() {
            if (!readSum()) {
                return false;
            }
            int sign = tape.sign;
            if (tape.kind != Tape.AT_SIGN || !Rule.compares(sign)) {
                return tape.refuse(FAULT_PLACE);
            }
            if (values >= MOST_VALUES) {
                return tape.refuse(FAULT_VALUES);
            }
            values++;
            tape.advance();
            if (!readSum()) {
                return false;
            }
            emit(Rule.SIGN, sign);
            return true;
        }

        /** A + or - waits till its right term is whole, since * / and % bind closer. */
        private boolean readSum() {
            if (!readValue()) {
                return false;
            }
            int waiting = NONE;
            for (int n = 0; n < MOST_BYTES; n++) {
                int sign = tape.sign;
                boolean isClose = tape.isAt('*') || tape.isAt('/') || tape.isAt('%');
                if (!isClose && !tape.isAt('+') && !tape.isAt('-')) {
                    break;
                }
                if (!isClose) {
                    emitWaiting(waiting);
                    waiting = sign;
                }
                tape.advance();
                if (!readValue()) {
                    return false;
                }
                if (isClose) {
                    emit(Rule.SIGN, sign);
                }
            }
            emitWaiting(waiting);
            return true;
        }

        private void emitWaiting(int sign) {
            if (sign != NONE) {
                emit(Rule.SIGN, sign);
            }
        }

        private boolean readValue() {
            boolean isNumber = tape.kind == Tape.AT_NUMBER;
            int value = isNumber ? tape.numberAtHand() : tape.wordIn(Rule.WORDS);
            if (value == NONE) {
                return tape.refuse(isNumber ? FAULT_NUMBER : FAULT_PLACE);
            }
            if (values >= MOST_VALUES) {
                return tape.refuse(FAULT_VALUES);
            }
            values++;
            tape.advance();
            emit(isNumber ? Rule.NUMBER : Rule.WORD, value);
            return true;
        }

        private void emit(int kind, int value) {
            if (size < code.length) {
                code[size] = kind << Rule.KIND_SHIFT | value;
                size++;
            }
        }
    }

    /** A rule that was read: clause by clause the row of its sum, then that of its test, maybe empty. */
    private static final class Rule {
        static final String WORDS =
            "person rung want weight grip told hour here above below worn strength slips ";
        static final int WORD_COUNT = 13;
        static final int KIND_SHIFT = 20;
        static final int NUMBER = 0;
        static final int WORD = 1;
        static final int SIGN = 2;
        static final int AND = '&';
        static final int OR = '|';
        static final int NOT = '!';
        private static final int AT_MOST = '<' + Tape.OR_EQUAL;
        private static final int AT_LEAST = '>' + Tape.OR_EQUAL;
        private static final int VALUE_MASK = (1 << KIND_SHIFT) - 1;
        /** Each of ten brackets leaves an or, an and at most; a sum leaves three more. */
        private static final int STACK = 64;

        private final int[] code;
        private final int[] sumEnd;
        private final int[] testEnd;
        private final long[] stack = new long[STACK];
        private int top;

        Rule(int[] code, int[] sumEnd, int[] testEnd) {
            this.code = code;
            this.sumEnd = sumEnd;
            this.testEnd = testEnd;
        }

        static boolean compares(int sign) {
            return sign == '<' || sign == '=' || sign == '>' || sign == AT_MOST || sign == AT_LEAST;
        }

        /** Above 0 to climb, below 0 to come down, by the words of one person. */
        int wish(long[] words) {
            int start = 0;
            for (int i = 0; i < sumEnd.length; i++) {
                boolean hasTest = testEnd[i] > sumEnd[i];
                if (!hasTest || result(sumEnd[i], testEnd[i], words) != 0) {
                    return Long.compare(result(start, sumEnd[i], words), 0);
                }
                start = testEnd[i];
            }
            return 0;
        }

        private long result(int from, int to, long[] words) {
            top = 0;
            for (int i = from; i < to; i++) {
                int kind = code[i] >> KIND_SHIFT;
                int value = code[i] & VALUE_MASK;
                if (kind == NUMBER) {
                    push(value);
                } else if (kind == WORD) {
                    push(value < words.length ? words[value] : 0);
                } else if (value == NOT) {
                    push(1 - pop());
                } else {
                    long right = pop();
                    push(joined(value, pop(), right));
                }
            }
            return pop();
        }

        private void push(long value) {
            if (top < STACK) {
                stack[top] = value;
                top++;
            }
        }

        private long pop() {
            if (top <= 0) {
                return 0;
            }
            top--;
            return stack[top];
        }

        private static long joined(int sign, long left, long right) {
            switch (sign) {
                case '+': return left + right;
                case '-': return left - right;
                case '*': return left * right;
                case '/': return right == 0 ? 0 : left / right;
                case '%': return right == 0 ? 0 : left % right;
                case AND: return left & right;
                case OR: return left | right;
                case '<': return left < right ? 1 : 0;
                case '>': return left > right ? 1 : 0;
                case AT_MOST: return left <= right ? 1 : 0;
                case AT_LEAST: return left >= right ? 1 : 0;
                default: return left == right ? 1 : 0;
            }
        }
    }

    /** How all stands on a ladder at one moment. */
    private static final class World {
        Ladder ladder;
        int hour;
        /** Rungs as bits. */
        int broken;
        /** NONE for who has fallen. */
        final int[] rung = new int[MOST_PEOPLE];
        final int[] grip = new int[MOST_PEOPLE];
        final int[] want = new int[MOST_PEOPLE];
        final int[] slips = new int[MOST_PEOPLE];
        final int[] worn = new int[MOST_RUNGS];

        World(Ladder ladder) {
            this.ladder = ladder;
        }

        void begin(Ladder told) {
            ladder = told;
            hour = 0;
            broken = told.startBroken;
            System.arraycopy(told.startRung, 0, rung, 0, MOST_PEOPLE);
            System.arraycopy(told.told, 0, grip, 0, MOST_PEOPLE);
            System.arraycopy(told.startWant, 0, want, 0, MOST_PEOPLE);
            Arrays.fill(slips, 0);
            Arrays.fill(worn, 0);
        }

        void copyFrom(World other) {
            ladder = other.ladder;
            hour = other.hour;
            broken = other.broken;
            System.arraycopy(other.rung, 0, rung, 0, MOST_PEOPLE);
            System.arraycopy(other.grip, 0, grip, 0, MOST_PEOPLE);
            System.arraycopy(other.want, 0, want, 0, MOST_PEOPLE);
            System.arraycopy(other.slips, 0, slips, 0, MOST_PEOPLE);
            System.arraycopy(other.worn, 0, worn, 0, MOST_RUNGS);
        }

        boolean isBroken(int r) {
            return (broken >> r & 1) != 0;
        }

        boolean hasFallen(int person) {
            return rung[person] == NONE;
        }

        boolean needsMending(int r) {
            return worn[r] > 0 || isBroken(r);
        }

        int whoIsOn(int r) {
            int who = 0;
            for (int p = 0; p < ladder.people; p++) {
                if (rung[p] == r) {
                    who |= 1 << p;
                }
            }
            return who;
        }

        int crowdOn(int r) {
            int many = 0;
            for (int p = 0; p < ladder.people; p++) {
                if (rung[p] == r) {
                    many++;
                }
            }
            return many;
        }

        int weightOn(int r) {
            int weight = 0;
            for (int p = 0; p < ladder.people; p++) {
                if (rung[p] == r) {
                    weight += ladder.weight[p];
                }
            }
            return weight;
        }

        int whoIsLeft() {
            int who = 0;
            for (int p = 0; p < ladder.people; p++) {
                if (!hasFallen(p)) {
                    who |= 1 << p;
                }
            }
            return who;
        }

        int allSlips() {
            int sum = 0;
            for (int p = 0; p < ladder.people; p++) {
                sum += slips[p];
            }
            return sum;
        }

        int allWorn() {
            int sum = 0;
            for (int r = 0; r < ladder.rungs; r++) {
                sum += worn[r];
            }
            return sum;
        }

        /** The rung that one comes to from another, going up or down. */
        int beside(int r, int way) {
            int near = r + way;
            int far = near + way;
            if (r < 0 || near < 0 || near >= ladder.rungs) {
                return NONE;
            }
            if ((broken >> near & 1) == 0) {
                return near;
            }
            boolean isThere = far >= 0 && far < ladder.rungs;
            return isThere && (broken >> far & 1) == 0 ? far : NONE;
        }

        boolean hasRoom(int r) {
            return crowdOn(r) < ladder.room[r];
        }

        int stepGoal(int person, int way) {
            int goal = beside(rung[person], way);
            return goal != NONE && hasRoom(goal) ? goal : NONE;
        }

        boolean canPass(int one, int other) {
            if (hasFallen(one) || hasFallen(other)) {
                return false;
            }
            return beside(rung[one], UP) == rung[other] || beside(rung[other], UP) == rung[one];
        }

        void swap(int one, int other) {
            int place = rung[one];
            rung[one] = rung[other];
            rung[other] = place;
        }

        void slip(int person) {
            int r = rung[person] - 1;
            while (r >= 0 && isBroken(r)) {
                r--;
            }
            rung[person] = Math.max(NONE, r);
            slips[person]++;
        }

        /** How many slip by it. */
        int split(int r) {
            broken |= 1 << r;
            int many = 0;
            for (int p = 0; p < ladder.people; p++) {
                if (rung[p] == r) {
                    slip(p);
                    many++;
                }
            }
            return many;
        }

        void repair(int r) {
            worn[r] /= 2;
            broken &= ~(1 << r);
        }

        int fullestRung() {
            int best = NONE;
            int most = 0;
            for (int r = 0; r < ladder.rungs; r++) {
                int crowd = crowdOn(r);
                if (crowd > most) {
                    most = crowd;
                    best = r;
                }
            }
            return best;
        }

        /** One at least: a rung that was mended may be worn beyond its strength already. */
        int hoursBorne(int r, int weight) {
            int each = weight + weightOn(r);
            int left = ladder.strength[r] - worn[r];
            if (each <= 0 || left <= 0) {
                return 1;
            }
            return (left + each - 1) / each;
        }

        /** In the order of Rule.WORDS; of one who has not fallen. */
        void tellWords(int person, long[] words) {
            int r = rung[person];
            if (r < 0 || words.length < Rule.WORD_COUNT) {
                return;
            }
            int above = beside(r, UP);
            int below = beside(r, DOWN);
            words[0] = person;
            words[1] = r;
            words[2] = want[person];
            words[3] = ladder.weight[person];
            words[4] = grip[person];
            words[5] = ladder.told[person];
            words[6] = hour;
            words[7] = crowdOn(r) - 1;
            words[8] = above == NONE ? NONE : crowdOn(above);
            words[9] = below == NONE ? NONE : crowdOn(below);
            words[10] = worn[r];
            words[11] = ladder.strength[r];
            words[12] = slips[person];
        }
    }

    /** Lets hours go by. */
    private static final class Hours {
        private static final int STAYED = 0;
        private static final int STEPPED = 1;
        private static final int PASSED = 2;

        /** The highest rung that broke in the last hour. */
        int brokenRung = NONE;
        private final int[] will = new int[MOST_PEOPLE];
        private final int[] deed = new int[MOST_PEOPLE];
        private final long[] words = new long[Rule.WORD_COUNT];

        /** How often somebody slips in the hour. */
        int spend(World world, Rule rule) {
            int people = world.ladder.people;
            for (int p = 0; p < people; p++) {
                will[p] = willOf(world, rule, p);
                deed[p] = STAYED;
            }
            for (int p = 0; p < people; p++) {
                if (will[p] != 0 && deed[p] == STAYED) {
                    go(world, p);
                }
            }
            int slipped = wear(world);
            for (int p = 0; p < people; p++) {
                if (!world.hasFallen(p)) {
                    slipped += tire(world, p);
                }
            }
            world.hour++;
            return slipped;
        }

        private int willOf(World world, Rule rule, int person) {
            if (world.hasFallen(person)) {
                return 0;
            }
            if (rule == null) {
                return Integer.compare(world.want[person], world.rung[person]);
            }
            world.tellWords(person, words);
            return rule.wish(words);
        }

        private void go(World world, int person) {
            int goal = world.beside(world.rung[person], will[person]);
            if (goal == NONE) {
                return;
            }
            if (world.hasRoom(goal)) {
                world.rung[person] = goal;
                deed[person] = STEPPED;
                return;
            }
            int other = partner(world, person, goal);
            if (other != NONE) {
                world.swap(person, other);
                deed[person] = PASSED;
                deed[other] = PASSED;
            }
        }

        private int partner(World world, int person, int goal) {
            for (int p = 0; p < world.ladder.people; p++) {
                boolean isFree = world.rung[p] == goal && deed[p] == STAYED && will[p] != 0;
                if (isFree && world.beside(goal, will[p]) == world.rung[person]) {
                    return p;
                }
            }
            return NONE;
        }

        /** All rungs are worn before the first one breaks: who slips wears nothing on the way. */
        private int wear(World world) {
            Ladder ladder = world.ladder;
            for (int r = 0; r < ladder.rungs; r++) {
                world.worn[r] += world.weightOn(r);
            }
            brokenRung = NONE;
            int slipped = 0;
            for (int r = ladder.rungs - 1; r >= 0; r--) {
                if (!world.isBroken(r) && world.worn[r] >= ladder.strength[r]) {
                    slipped += world.split(r);
                    brokenRung = Math.max(brokenRung, r);
                }
            }
            return slipped;
        }

        private int tire(World world, int person) {
            int told = world.ladder.told[person];
            int grip = world.grip[person];
            switch (deed[person]) {
                case STEPPED: grip -= 1; break;
                case PASSED: grip -= 3; break;
                default: grip = Math.min(told, grip + 1); break;
            }
            if (grip > 0) {
                world.grip[person] = grip;
                return 0;
            }
            world.slip(person);
            world.grip[person] = Math.max(1, told / 2);
            return 1;
        }
    }

    /** All that an image keeps. */
    private static final class State {
        final World world;
        int force = NONE;
        int x;
        int notes;
        final int[] noteHour = new int[MOST_NOTES];
        final int[] noteRung = new int[MOST_NOTES];
        final int[] noteMany = new int[MOST_NOTES];
        /** Of an image: whether it was ever made. */
        boolean made;

        State(Ladder ladder) {
            world = new World(ladder);
        }

        void copyFrom(State other) {
            world.copyFrom(other.world);
            force = other.force;
            x = other.x;
            notes = other.notes;
            System.arraycopy(other.noteHour, 0, noteHour, 0, MOST_NOTES);
            System.arraycopy(other.noteRung, 0, noteRung, 0, MOST_NOTES);
            System.arraycopy(other.noteMany, 0, noteMany, 0, MOST_NOTES);
        }

        int addNote(int n, int rung, int many) {
            if (notes >= MOST_NOTES) {
                return MISSING;
            }
            noteHour[notes] = n;
            noteRung[notes] = rung;
            noteMany[notes] = many;
            notes++;
            return notes;
        }

        int lastNotedHour() {
            int last = 0;
            for (int i = 0; i < notes; i++) {
                last = Math.max(last, noteHour[i]);
            }
            return last;
        }

        boolean isAsNoted(World then) {
            for (int i = 0; i < notes; i++) {
                if (noteHour[i] == then.hour && then.crowdOn(noteRung[i]) != noteMany[i]) {
                    return false;
                }
            }
            return true;
        }
    }

    /** Hours that are asked about: they go by in a world of their own. */
    private static final class Outlook {
        /** Later than every hour. */
        private static final int NEVER = 1000000;
        private static final int CANDIDATES = MOST_RULES + 1;

        int brokenRung;
        int brokenHour;
        int mendedRung;
        int mendedHour;
        int fittingCount;
        int firstFitting;
        int partingRung;
        int mostAlike;
        int windSlips;
        int windFalls;
        private int windX;
        private final Hours hours;
        private final World trial;
        /** A row of rungs for each candidate that fits: how many stood on each in the hour looked at. */
        private final int[] crowds = new int[CANDIDATES * MOST_RUNGS];

        Outlook(Hours hours, World trial) {
            this.hours = hours;
            this.trial = trial;
        }

        World after(World world, Rule rule, int n) {
            trial.copyFrom(world);
            for (int i = 0; i < n; i++) {
                hours.spend(trial, rule);
            }
            return trial;
        }

        /** With a rung that is mended ahead of it, or NONE. */
        boolean foreseesBreak(World world, int mended, Rule rule) {
            trial.copyFrom(world);
            if (mended != NONE) {
                trial.repair(mended);
            }
            for (int i = 0; i < HOURS_FORESEEN; i++) {
                brokenHour = trial.hour;
                hours.spend(trial, rule);
                brokenRung = hours.brokenRung;
                if (brokenRung != NONE) {
                    return true;
                }
            }
            return false;
        }

        void findMending(World world, Rule rule) {
            mendedRung = MISSING;
            mendedHour = MISSING;
            int latest = NONE;
            for (int r = 0; r < world.ladder.rungs && latest < NEVER; r++) {
                if (!world.needsMending(r)) {
                    continue;
                }
                int when = foreseesBreak(world, r, rule) ? brokenHour : NEVER;
                if (when > latest) {
                    latest = when;
                    mendedRung = r;
                    mendedHour = when == NEVER ? NONE : when;
                }
            }
        }

        int goodsHour(World world, Rule rule, int from, int to) {
            trial.copyFrom(world);
            if (from == to) {
                return trial.hour;
            }
            int way = to > from ? UP : DOWN;
            int place = from;
            for (int i = 0; i < HOURS_FORESEEN; i++) {
                int told = trial.hour;
                hours.spend(trial, rule);
                if (trial.crowdOn(place) > 0 && trial.crowdOn(place + way) > 0) {
                    place += way;
                }
                if (place == to) {
                    return told;
                }
            }
            return MISSING;
        }

        /** Candidate NONE is to have no rule. */
        void tryRules(State state, Rule[] rules, int ruleCount, int lookedAt) {
            fittingCount = 0;
            firstFitting = MISSING;
            for (int c = NONE; c < ruleCount && c < rules.length; c++) {
                if (!fits(state, c == NONE ? null : rules[c], lookedAt)) {
                    continue;
                }
                if (fittingCount == 0) {
                    firstFitting = c;
                }
                fittingCount++;
            }
        }

        private boolean fits(State state, Rule rule, int lookedAt) {
            trial.begin(state.world.ladder);
            int last = Math.max(state.lastNotedHour(), lookedAt);
            for (int n = 0; n <= last; n++) {
                if (!state.isAsNoted(trial)) {
                    return false;
                }
                if (n == lookedAt) {
                    keepCrowds();
                }
                hours.spend(trial, rule);
            }
            return true;
        }

        private void keepCrowds() {
            int row = fittingCount * MOST_RUNGS;
            for (int r = 0; r < trial.ladder.rungs && row + r < crowds.length; r++) {
                crowds[row + r] = trial.crowdOn(r);
            }
        }

        void findPartingRung(int rungs) {
            partingRung = NONE;
            mostAlike = CANDIDATES + 1;
            for (int r = 0; r < rungs && r < MOST_RUNGS; r++) {
                int alike = largestGroup(r);
                if (alike < mostAlike) {
                    mostAlike = alike;
                    partingRung = r;
                }
            }
        }

        private int largestGroup(int r) {
            int largest = 0;
            for (int many = 0; many <= MOST_PEOPLE; many++) {
                int group = 0;
                for (int c = 0; c < fittingCount && c < CANDIDATES; c++) {
                    if (crowds[c * MOST_RUNGS + r] == many) {
                        group++;
                    }
                }
                largest = Math.max(largest, group);
            }
            return largest;
        }

        void blow(State state, Rule rule, int m, int n, int p) {
            windX = state.x;
            windSlips = 0;
            windFalls = 0;
            int stood = Integer.bitCount(state.world.whoIsLeft());
            for (int i = 0; i < m; i++) {
                trial.copyFrom(state.world);
                for (int j = 0; j < n; j++) {
                    loosen(p);
                    windSlips += hours.spend(trial, rule);
                }
                windFalls += stood - Integer.bitCount(trial.whoIsLeft());
            }
        }

        private void loosen(int p) {
            for (int person = 0; person < trial.ladder.people; person++) {
                if (!trial.hasFallen(person) && draw() % 100 < p) {
                    trial.grip[person] = Math.max(1, trial.grip[person] - 1);
                }
            }
        }

        private int draw() {
            windX = (int) ((windX * 1103515245L + 12345L) % 2147483648L);
            return windX / 65536;
        }
    }

    /** Finds rows of steps and passes. A place of all the people is a number whose digits are their rungs. */
    private static final class Paths {
        /** Nine rungs for each of four people. */
        private static final int MOST_PLACES = 6561;
        private static final int UNSEEN = -1;
        private static final int START = -2;
        /** A move is this much for its person; then up, down, or two more than a pass's other one. */
        private static final int BY_PERSON = 8;
        private static final int MOVE_UP = 0;
        private static final int MOVE_DOWN = 1;
        private static final int MOVE_PASS = 2;
        private static final int BY_PLACE = 64;

        /** As it is now; a search only reads it. */
        private final World world;
        private int set;
        /** The place that each was first come to from, and the move; without length till the first search. */
        private int[] from = new int[0];
        private int[] queue = new int[0];
        private int tail;
        private int goal;
        private int rowLength;
        private final int[] digit = new int[MOST_PEOPLE];
        private final int[] rung = new int[MOST_PEOPLE];
        private final int[] crowd = new int[MOST_RUNGS];
        private final int[] above = new int[MOST_RUNGS];
        private final int[] below = new int[MOST_RUNGS];

        Paths(World world) {
            this.world = world;
        }

        /**
         * Places are left in the order in which they are come to, by the first move first: so the first
         * row of moves to a place is the one that is found.
         */
        int fewestMoves(int people) {
            if (!begin(people)) {
                return MISSING;
            }
            for (int i = 0; i < tail && i < queue.length; i++) {
                unfold(queue[i]);
                if (isThere()) {
                    goal = queue[i];
                    rowLength = lengthOfRow();
                    return rowLength;
                }
                for (int p = 0; p < world.ladder.people; p++) {
                    trySteps(queue[i], p);
                    tryPasses(queue[i], p);
                }
            }
            return MISSING;
        }

        private int lengthOfRow() {
            int place = goal;
            int length = 0;
            while (length < MOST_PLACES && from[place] != START) {
                place = from[place] / BY_PLACE;
                length++;
            }
            return length;
        }

        /** Of the row that was found last. */
        int toldMove(int k, int what) {
            int place = goal;
            for (int i = rowLength - 1; i > k; i--) {
                place = from[place] / BY_PLACE;
            }
            int move = from[place] % BY_PLACE;
            int kind = Math.min(MOVE_PASS, move % BY_PERSON);
            switch (what) {
                case 0: return move / BY_PERSON;
                case 1: return kind;
                default: return kind == MOVE_PASS ? move % BY_PERSON - MOVE_PASS : NONE;
            }
        }

        /** All that steps alone come to is looked at before one pass more is. */
        int fewestPasses(int people) {
            if (!begin(people)) {
                return MISSING;
            }
            int first = 0;
            for (int passes = 0; passes < MOST_PLACES && first < tail; passes++) {
                for (int i = first; i < tail && i < queue.length; i++) {
                    unfold(queue[i]);
                    if (isThere()) {
                        return passes;
                    }
                    for (int p = 0; p < world.ladder.people; p++) {
                        trySteps(queue[i], p);
                    }
                }
                int last = tail;
                for (int i = first; i < last && i < queue.length; i++) {
                    unfold(queue[i]);
                    for (int p = 0; p < world.ladder.people; p++) {
                        tryPasses(queue[i], p);
                    }
                }
                first = last;
            }
            return MISSING;
        }

        /** False, if who has fallen is among them. */
        private boolean begin(int people) {
            if ((people & ~world.whoIsLeft()) != 0) {
                return false;
            }
            set = people;
            if (from.length == 0) {
                from = new int[MOST_PLACES];
                queue = new int[MOST_PLACES];
            }
            Arrays.fill(from, UNSEEN);
            for (int r = 0; r < world.ladder.rungs; r++) {
                above[r] = world.beside(r, UP);
                below[r] = world.beside(r, DOWN);
            }
            int start = 0;
            int each = 1;
            for (int p = 0; p < world.ladder.people; p++) {
                digit[p] = each;
                start += each * Math.max(0, world.rung[p]);
                each *= world.ladder.rungs;
            }
            tail = 0;
            comeTo(start, START);
            return true;
        }

        private void comeTo(int place, int how) {
            if (place >= 0 && place < from.length && tail < queue.length && from[place] == UNSEEN) {
                from[place] = how;
                queue[tail] = place;
                tail++;
            }
        }

        private void unfold(int place) {
            int rungs = world.ladder.rungs;
            Arrays.fill(crowd, 0);
            int rest = place;
            for (int p = 0; p < world.ladder.people && rungs > 0; p++) {
                rung[p] = rest % rungs;
                rest /= rungs;
                if (!world.hasFallen(p)) {
                    crowd[rung[p]]++;
                }
            }
        }

        private boolean isThere() {
            for (int p = 0; p < world.ladder.people; p++) {
                if ((set >> p & 1) != 0 && rung[p] != world.want[p]) {
                    return false;
                }
            }
            return true;
        }

        private void trySteps(int place, int p) {
            if (!world.hasFallen(p)) {
                tryStep(place, p, above[rung[p]], MOVE_UP);
                tryStep(place, p, below[rung[p]], MOVE_DOWN);
            }
        }

        private void tryStep(int place, int p, int to, int kind) {
            if (to != NONE && crowd[to] < world.ladder.room[to]) {
                comeTo(place + (to - rung[p]) * digit[p], place * BY_PLACE + p * BY_PERSON + kind);
            }
        }

        private void tryPasses(int place, int p) {
            if (world.hasFallen(p)) {
                return;
            }
            for (int q = p + 1; q < world.ladder.people; q++) {
                boolean isBeside = above[rung[p]] == rung[q] || below[rung[p]] == rung[q];
                if (isBeside && !world.hasFallen(q)) {
                    int other = place + (rung[q] - rung[p]) * (digit[p] - digit[q]);
                    comeTo(other, place * BY_PLACE + p * BY_PERSON + MOVE_PASS + q);
                }
            }
        }
    }

    /** What single steps can do: against an invader, and for the capital. */
    private static final class Siege {
        /** The first step of the best defence. */
        int firstStep;
        private final World trial;

        Siege(World trial) {
            this.trial = trial;
        }

        int possibleCapitals(World world) {
            trial.copyFrom(world);
            int found = capitalBit();
            for (int step = 0; step < 2 * trial.ladder.people; step++) {
                int person = step / 2;
                int home = trial.rung[person];
                int goal = goalOf(step);
                if (goal != NONE) {
                    trial.rung[person] = goal;
                    found |= capitalBit();
                    trial.rung[person] = home;
                }
            }
            return found;
        }

        private int capitalBit() {
            int fullest = trial.fullestRung();
            return fullest == NONE ? 0 : 1 << fullest;
        }

        private int goalOf(int step) {
            return trial.stepGoal(step / 2, step % 2 == 0 ? UP : DOWN);
        }

        int lowestHeight(World world, int turns) {
            trial.copyFrom(world);
            return defend(NONE, turns);
        }

        /** The outermost call is the last to tell its first step. The invader never comes down. */
        private int defend(int invader, int turns) {
            if (turns <= 0) {
                return invader;
            }
            int lowest = letClimb(invader, turns);
            int best = NONE;
            for (int step = 0; step < 2 * trial.ladder.people && lowest > invader; step++) {
                int person = step / 2;
                int home = trial.rung[person];
                int goal = goalOf(step);
                if (goal == NONE) {
                    continue;
                }
                trial.rung[person] = goal;
                int height = letClimb(invader, turns);
                trial.rung[person] = home;
                if (height < lowest) {
                    lowest = height;
                    best = step;
                }
            }
            firstStep = best;
            return lowest;
        }

        private int letClimb(int invader, int turns) {
            int next = invader + 1;
            boolean climbs = next < trial.ladder.rungs && trial.hasRoom(next);
            return defend(climbs ? next : invader, turns - 1);
        }
    }
}
