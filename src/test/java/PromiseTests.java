/** Each promise by answers that were worked out by hand from the document: the ordinary, the edges, the wrong. */
public final class PromiseTests extends Check {
    private PromiseTests() {
    }

    public static void main(String[] args) {
        newObject();
        tape();
        ladderTexts();
        ladderFaults();
        ruleTexts();
        ruleFaults();
        ruleLimits();
        ruleMeaning();
        forcing();
        personAndRung();
        hoursPlain();
        hoursPassing();
        hoursBreaking();
        hoursTiring();
        acts();
        undoing();
        lookingAhead();
        breaking();
        moving();
        squeezing();
        mending();
        capitals();
        holding();
        goods();
        standing();
        notes();
        draws();
        counts();
        images();
        end("PromiseTests");
    }

    // ---- promise 1

    private static void newObject() {
        LadderLand x = new LadderLand();
        int[] due = {0, 0, 0, 0, 0, NONE, 0, 0, 0, 0, 0, 0, 0};
        for (int what = 0; what < due.length; what++) {
            is(1, "count(" + what + ")", x.count(what), due[what]);
        }
        is(1, "person", x.person(0, 0), -2);
        is(1, "rung", x.rung(0, 0), NONE);
        is(1, "hour", x.hour(), NONE);
        is(1, "step", x.step(0, true), NONE);
        is(1, "pass", x.pass(0, 1), false);
        is(1, "mend", x.mend(0), NONE);
        is(1, "cut", x.cut(0), NONE);
        is(1, "aim", x.aim(0, 1), NONE);
        is(1, "undo", x.undo(), NONE);
        is(1, "ahead", x.ahead(0, 0, 0), -2);
        is(1, "breaks", x.breaks(0), NONE);
        is(1, "moves", x.moves(0), NONE);
        is(1, "move", x.move(0, 0, 0), -3);
        is(1, "squeeze", x.squeeze(0), NONE);
        is(1, "mending", x.mending(0), -3);
        is(1, "capital", x.capital(), NONE);
        is(1, "ballot", x.ballot(), NONE);
        is(1, "hold", x.hold(1, 0), -2);
        is(1, "goods", x.goods(0, 0), NONE);
        is(1, "stand", x.stand(0, 1), NONE);
        is(1, "note", x.note(0, 0, 0), -2);
        is(1, "note NONE", x.note(NONE, 0, 0), 0);
        is(1, "ruled", x.ruled(0), -3);
        is(1, "look", x.look(0, 0), NONE);
        is(1, "years", x.years(1, 1, 0, 0), NONE);
        is(1, "force none", x.force(NONE), NONE);
        is(1, "force 0", x.force(0), -2);
        is(1, "back", x.back(0), NONE);
    }

    // ---- promises 2 and 3

    private static void tape() {
        LadderLand x = new LadderLand();
        is(2, "feed", x.feed(0x6C616464, 0x65722033, 0, 0, 0), 20);
        is(3, "end beyond", x.end(21), NONE);
        is(3, "end below 0", x.end(-1), NONE);
        is(3, "nothing happened", x.count(12), 20);
        is(3, "end", x.end(8), 8);
        is(3, "end at the end", x.end(8), 8);
        is(2, "the highest byte comes first", x.ladder(), 0);
        is(2, "three rungs", x.count(0), 3);
        is(2, "the tape is empty then", x.count(12), 0);
        for (int i = 1; i <= 20; i++) {
            is(2, "feed " + i, x.feed(-1, -1, -1, -1, -1), 20 * i);
        }
        is(2, "one too many", x.feed(0, 0, 0, 0, 0), NONE);
        is(2, "none came", x.count(12), 400);
        is(3, "end 381", x.end(381), 381);
        is(2, "381 and 20 are too many", x.feed(0, 0, 0, 0, 0), NONE);
        is(3, "end 380", x.end(380), 380);
        is(2, "380 and 20 are not", x.feed(0, 0, 0, 0, 0), 400);
        is(3, "end 0", x.end(0), 0);
    }

    // ---- promise 4

    private static void ladderTexts() {
        LadderLand x = with("ladder 5;rung 1 3 50;rung 1 4 60;broken 3;person 1 7 9 4;person 1 2 30 0");
        is(4, "people", x.count(1), 2);
        is(4, "rungs", x.count(0), 5);
        is(4, "room, the last told", x.rung(1, 0), 4);
        is(4, "strength, the last told", x.rung(1, 1), 60);
        is(4, "room without", x.rung(0, 0), 2);
        is(4, "strength without", x.rung(4, 1), 200);
        is(4, "broken", x.count(3), 8);
        is(4, "rung", x.person(1, 0), 1);
        is(4, "weight", x.person(0, 1), 7);
        is(4, "grip", x.person(1, 2), 30);
        is(4, "want", x.person(0, 3), 4);
        is(4, "no people", ladderOf("ladder 3"), 0);
        is(4, "blanks", ladderOf("   ladder9   ;  person0 1 1 8   "), 1);
        is(4, "leading noughts", ladderOf("ladder 00009"), 0);
        is(4, "want may be broken", ladderOf("ladder 3;broken 2;person 0 1 1 2"), 1);
        is(4, "broken twice", ladderOf("ladder 3;broken 2;broken 2"), 0);
        is(4, "four people", ladderOf("ladder 3;rung 0 4 1;" + times("person 0 1 1 0;", 3) + "person 0 20 30 2"), 4);
        is(4, "forty clauses", ladderOf("ladder 9" + times(";broken1", 39)), 0);

        x.hour();
        x.note(0, 0, 0);
        x.seed(77);
        Bytes.put(x, "climb 0");
        x.rule();
        x.force(0);
        Bytes.put(x, "ladder 2");
        is(4, "a fault", x.ladder(), fault(7, 1));
        is(4, "the tape is empty", x.count(12), 0);
        is(4, "all else stays", x.count(0) * 100 + x.count(6) * 10 + x.count(9), 511);
        is(4, "and can be undone", x.count(10), 1);
        Bytes.put(x, "ladder 4;person 0 1 1 0");
        is(4, "another one", x.ladder(), 1);
        is(4, "hour 0, no notes, nothing undone", x.count(6) + x.count(9) + x.count(10), 0);
        is(4, "nothing worn, no slips", x.count(8) + x.count(7), 0);
        is(4, "the rule in force stays", x.count(5), 0);
        is(4, "x stays", x.count(11), 77);
    }

    private static void ladderFaults() {
        is(4, "empty", ladderOf(""), fault(0, 0));
        is(4, "blanks alone", ladderOf("  "), fault(2, 0));
        is(4, "no word", ladderOf("ladders 3"), fault(0, 0));
        is(4, "a capital letter", ladderOf("Ladder 3"), fault(0, 0));
        is(4, "no number", ladderOf("ladder"), fault(6, 0));
        is(4, "a word for a number", ladderOf("ladder x"), fault(7, 0));
        is(4, "no clause behind ;", ladderOf("ladder 3;"), fault(9, 0));
        is(4, "end behind blanks", ladderOf("ladder 3; "), fault(10, 0));
        is(4, "a byte behind the text", ladderOf("ladder 3\0"), fault(8, 0));
        is(4, "a number behind the clause", ladderOf("ladder 3 4"), fault(9, 0));
        is(4, "a long number where none stands", ladderOf("ladder 3 444444"), fault(9, 0));
        is(4, "too few rungs", ladderOf("ladder 2"), fault(7, 1));
        is(4, "too many rungs", ladderOf("ladder 10"), fault(7, 1));
        is(4, "six digits", ladderOf("ladder 000003"), fault(7, 1));
        is(4, "rung ahead of ladder", ladderOf("rung 0 1 1;ladder 3"), fault(0, 4));
        is(4, "a second ladder", ladderOf("ladder 3; ladder 3"), fault(10, 4));
        is(4, "forty-one clauses", ladderOf("ladder 9" + times(";broken1", 40)), fault(8 + 39 * 8 + 1, 4));
        is(4, "forty-one, no word", ladderOf("ladder 9" + times(";broken1", 39) + ";x"), fault(8 + 39 * 8 + 1, 0));
        is(4, "no such rung", ladderOf("ladder 3;rung 3 1 1"), fault(14, 1));
        is(4, "no such rung to be broken", ladderOf("ladder 3;broken 3"), fault(16, 1));
        is(4, "no such rung to be on", ladderOf("ladder 3;person 3 1 1 0"), fault(16, 1));
        is(4, "room 0", ladderOf("ladder 3;rung 0 0 1"), fault(16, 1));
        is(4, "room 5", ladderOf("ladder 3;rung 0 5 1"), fault(16, 1));
        is(4, "strength 0", ladderOf("ladder 3;rung 0 1 0"), fault(18, 1));
        is(4, "strength 1000", ladderOf("ladder 3;rung 0 1 1000"), fault(18, 1));
        String two = "ladder 3;person 0 1 1 0;person 0 1 1 0;";
        is(4, "less room than stand there", ladderOf(two + "rung 0 1 5"), fault(two.length() + 7, 1));
        is(4, "as much room", ladderOf(two + "rung 0 2 5"), 2);
        is(4, "no room", ladderOf(two + "person 0 1 1 0"), fault(two.length() + 7, 1));
        is(4, "broken under somebody", ladderOf(two + "broken 0"), fault(two.length() + 7, 1));
        is(4, "on a broken rung", ladderOf("ladder 3;broken 0;person 0 1 1 0"), fault(25, 1));
        is(4, "weight 0", ladderOf("ladder 3;person 0 0 1 0"), fault(18, 1));
        is(4, "weight 21", ladderOf("ladder 3;person 0 21 1 0"), fault(18, 1));
        is(4, "grip 0", ladderOf("ladder 3;person 0 1 0 0"), fault(20, 1));
        is(4, "grip 31", ladderOf("ladder 3;person 0 1 31 0"), fault(20, 1));
        is(4, "want 3", ladderOf("ladder 3;person 0 1 1 3"), fault(22, 1));
        String four = "ladder 3;rung 0 4 1;" + times("person 0 1 1 0;", 4);
        is(4, "a fifth person", ladderOf(four + "person 9 9 9 9"), fault(four.length(), 4));
    }

    // ---- promise 5

    private static void ruleTexts() {
        LadderLand x = new LadderLand();
        for (int i = 0; i < 6; i++) {
            Bytes.put(x, "climb " + i);
            is(5, "rule " + i, x.rule(), i);
            is(5, "the tape is empty", x.count(12), 0);
        }
        Bytes.put(x, "climb 6");
        is(5, "a seventh", x.rule(), NONE);
        is(5, "nothing happens", x.count(12), 7);
        is(5, "rules", x.count(4), 6);
        LadderLand y = new LadderLand();
        Bytes.put(y, "climb");
        is(5, "a fault", y.rule(), fault(5, 0));
        is(5, "the tape is empty by a fault, too", y.count(12), 0);
        is(5, "no rule", y.count(4), 0);
        is(5, "as tight as can be", ruleOf("climb1if[rung<want]or not3=4"), 0);
        is(5, "twelve clauses", ruleOf(times("climb 1;", 11) + "climb 1"), 0);
    }

    private static void ruleFaults() {
        is(5, "empty", ruleOf(""), fault(0, 0));
        is(5, "no climb", ruleOf("climbs 1"), fault(0, 0));
        is(5, "a word goes on to z", ruleOf("climbz 1"), fault(0, 0));
        is(5, "a minus ahead", ruleOf("climb -1"), fault(6, 0));
        is(5, "a wrong word", ruleOf("climb rungs"), fault(6, 0));
        is(5, "if for a value", ruleOf("climb if"), fault(6, 0));
        is(5, "no value behind +", ruleOf("climb 1+"), fault(8, 0));
        is(5, "two values", ruleOf("climb 1 rung"), fault(8, 0));
        is(5, "five digits", ruleOf("climb 99999"), 0);
        is(5, "six digits", ruleOf("climb 123456"), fault(6, 1));
        is(5, "no test", ruleOf("climb 1 if"), fault(10, 0));
        is(5, "no sign", ruleOf("climb 1 if 2"), fault(12, 0));
        is(5, "and for a sign", ruleOf("climb 1 if 2 and"), fault(13, 0));
        is(5, "a sign split in two", ruleOf("climb 1 if 2 < = 3"), fault(15, 0));
        is(5, "=>", ruleOf("climb 1 if 2 => 3"), fault(14, 0));
        is(5, "two signs", ruleOf("climb 1 if 1<2<3"), fault(14, 0));
        is(5, "a bracket left open", ruleOf("climb 1 if [1<2"), fault(15, 0));
        is(5, "a bracket ended by ;", ruleOf("climb 1 if [1<2;climb 1"), fault(15, 0));
        is(5, "a bracket too many", ruleOf("climb 1 if 1<2]"), fault(14, 0));
        is(5, "brackets for a sum", ruleOf("climb 1 if [1]<2"), fault(13, 0));
        is(5, "not for a value", ruleOf("climb not 1"), fault(6, 0));
        is(5, "a second if", ruleOf("climb 1 if 1=1 if 1=1"), fault(15, 0));
        is(5, "a byte above 127", ruleOf("climb " + (char) 233), fault(6, 0));
        is(5, "; at the end", ruleOf("climb 1;"), fault(8, 0));
    }

    private static void ruleLimits() {
        is(5, "thirteen clauses", ruleOf(times("climb 1;", 12) + "climb 1"), fault(96, 4));
        is(5, "thirteen, no word", ruleOf(times("climb 1;", 12) + "clim 1"), fault(96, 0));
        is(5, "thirteen, the end", ruleOf(times("climb 1;", 12)), fault(96, 0));
        is(5, "ten brackets", ruleOf("climb 1 if " + times("[", 10) + "1=1" + times("]", 10)), 0);
        is(5, "eleven", ruleOf("climb 1 if " + times("[", 11) + "1=1" + times("]", 11)), fault(21, 2));
        is(5, "ten nots", ruleOf("climb 1 if " + times("not ", 10) + "1=1"), 0);
        is(5, "eleven nots", ruleOf("climb 1 if " + times("not ", 11) + "1=1"), fault(51, 2));
        is(5, "both together", ruleOf("climb 1 if " + times("not[", 5) + "not 1=1" + times("]", 5)), fault(31, 2));
        is(5, "beside one another", ruleOf("climb 1 if " + times("not[not 1=1] and ", 11) + "not 1=1"), 0);
        is(5, "sixty values", ruleOf("climb 1" + times("+1", 59)), 0);
        is(5, "sixty-one", ruleOf("climb 1" + times("+1", 60)), fault(7 + 119, 3));
        is(5, "sixty-one, a wrong word", ruleOf("climb 1" + times("+1", 59) + "+x"), fault(7 + 119, 0));
        is(5, "sixty-one, six digits", ruleOf("climb 1" + times("+1", 59) + "+123456"), fault(7 + 119, 1));
        String full = "climb 1" + times("+1", 58) + " if 1";
        is(5, "a sign too many", ruleOf(full + "<=1"), fault(full.length(), 3));
        is(5, "the text's clauses together", ruleOf("climb 1" + times("+1", 58) + ";climb 1;climb 1"),
            fault(7 + 116 + 15, 3));
    }

    /** Of one person on rung 1 of 0 to 2, who wants rung 1: where they are an hour later. */
    private static int wish(String rule) {
        LadderLand x = with("ladder 3;rung 2 1 50;person 1 3 9 1;person 0 4 8 2", rule);
        x.force(0);
        return x.ahead(0, 1, 0);
    }

    /** Of one on the highest rung, rung 2, for whom above is -1: where they are an hour later. */
    private static int wishAtTop(String rule) {
        LadderLand x = with("ladder 3;person 2 3 9 2", rule);
        x.force(0);
        return x.ahead(0, 1, 0);
    }

    private static void ruleMeaning() {
        is(5, "above 0", wish("climb 7"), 2);
        is(5, "below 0", wish("climb 0-7"), 0);
        is(5, "0", wish("climb 7-7"), 1);
        is(5, "the first that holds", wish("climb 1 if 1=2;climb 0-1 if 1=1;climb 1"), 0);
        is(5, "none holds", wish("climb 1 if 1=2"), 1);
        is(5, "* ahead of +", wish("climb 1+0*5"), 2);
        is(5, "from the left", wish("climb 5-3-2"), 1);
        is(5, "* and / from the left", wish("climb 3/2*2-2"), 1);
        is(5, "/ towards 0", wish("climb 1 if 3/2=1"), 2);
        is(5, "/ of one below 0, towards 0", wishAtTop("climb 0-1 if above/2=0"), 1);
        is(5, "% of one below 0", wishAtTop("climb 0-1 if above%2=0-1"), 1);
        is(5, "/ by 0", wish("climb 5/0"), 1);
        is(5, "% by 0", wish("climb 5%0"), 1);
        is(5, "%", wish("climb 7%4-3"), 1);
        is(5, "and ahead of or", wish("climb 1 if 1=1 or 1=1 and 1=2"), 2);
        is(5, "or from the left", wish("climb 1 if 1=2 and 1=1 or 1=1"), 2);
        is(5, "brackets", wish("climb 1 if [1=1 or 1=1] and 1=2"), 1);
        is(5, "not binds one fact", wish("climb 1 if not 1=1 or 1=1"), 2);
        is(5, "not of brackets", wish("climb 1 if not [1=1 or 1=1]"), 1);
        is(5, "<", wish("climb 1 if 1<1"), 1);
        is(5, "<=", wish("climb 1 if 1<=1"), 2);
        is(5, ">", wish("climb 1 if 2>1"), 2);
        is(5, "> of the same", wish("climb 1 if 1>1"), 1);
        is(5, ">= of the same", wish("climb 1 if 1>=1"), 2);
        is(5, ">=", wish("climb 1 if 0>=1"), 1);
        is(5, "round in 64 bits", wish("climb 65536*65536*65536*32768"), 0);
        is(5, "and on", wish("climb 65536*65536*65536*65536"), 1);
        String all = "person=0 and rung=1 and want=1 and weight=3 and grip=9 and told=9 and hour=0 and here=0"
            + " and above=0 and below=1 and worn=0 and strength=200 and slips=0";
        is(5, "the words", wish("climb 1 if " + all), 2);

        LadderLand x = with("ladder 3;rung 0 4 90;person 0 3 9 1;person 0 4 8 2;person 2 1 5 2",
            "climb 1 if person=2 and above=0-1 and below=0 or here=1 and below=0-1 and above=0 and strength=90");
        x.force(0);
        is(5, "here, and no rung there", x.ahead(0, 1, 0) * 100 + x.ahead(1, 1, 0) * 10 + x.ahead(2, 1, 0), 112);
        LadderLand y = with("ladder 3;person 1 3 3 1", "climb 1 if hour=1 and worn=3;climb 0-1 if slips=1 and grip<told");
        y.force(0);
        y.hour();
        is(5, "hour, worn", y.hour() + y.person(0, 0) * 10, 20);
        is(5, "grip goes down", y.person(0, 2), 2);
        y.cut(2);
        is(5, "slips", y.ahead(0, 1, 0), 0);
    }

    // ---- promise 6

    private static void forcing() {
        LadderLand x = with("ladder 3;person 0 1 5 0", "climb 1", "climb 0");
        is(6, "none was", x.force(1), NONE);
        is(6, "1 was", x.force(0), 1);
        is(6, "no such", x.force(2), -2);
        is(6, "nothing happened", x.count(5), 0);
        is(6, "below NONE", x.force(-2), -2);
        x.hour();
        is(6, "by the rule", x.person(0, 0), 1);
        is(6, "none again", x.force(NONE), 0);
        x.hour();
        is(6, "by the want", x.person(0, 0), 0);
    }

    // ---- promises 7 and 8

    private static void personAndRung() {
        LadderLand x = with("ladder 7;rung 3 3 40;broken 2;broken 4;broken 5;person 3 6 9 6;person 1 7 8 0;person 3 2 4 0");
        int[] due = {3, 6, 9, 6, 0, NONE, 1};
        for (int what = 0; what < due.length; what++) {
            is(7, "what " + what, x.person(0, what), due[what]);
        }
        is(7, "over one broken rung", x.person(1, 5), 3);
        is(7, "below", x.person(1, 6), 0);
        is(7, "what 7", x.person(0, 7), -2);
        LadderLand y = with("ladder 4;broken 1;broken 3;person 2 1 1 0");
        is(7, "down to rung 0 over a broken one", y.person(0, 6), 0);
        is(7, "no rung beyond the broken one", y.person(0, 5), NONE);
        y.cut(0);
        is(7, "nor below", y.person(0, 6), NONE);
        y.cut(2);
        is(7, "falls over broken rungs", y.person(0, 0), NONE);
        is(7, "what -1", x.person(0, -1), -2);
        is(7, "person 3", x.person(3, 0), -2);
        is(7, "person -1", x.person(-1, 0), -2);
        int[] rung = {3, 40, 0, 0, 5, 8};
        for (int what = 0; what < rung.length; what++) {
            is(8, "what " + what, x.rung(3, what), rung[what]);
        }
        is(8, "broken", x.rung(4, 3), 1);
        is(8, "what 6", x.rung(0, 6), NONE);
        is(8, "what -1", x.rung(0, -1), NONE);
        is(8, "rung 7", x.rung(7, 0), NONE);
        is(8, "rung -1", x.rung(-1, 0), NONE);
        x.cut(3);
        x.cut(1);
        x.cut(0);
        is(7, "fallen", x.person(0, 0), NONE);
        is(7, "fallen, above", x.person(0, 5), NONE);
        is(7, "fallen, below", x.person(0, 6), NONE);
        is(7, "fallen, weight", x.person(0, 1), 6);
        is(7, "slips of them", x.person(0, 4), 3);
        is(8, "nobody", x.rung(3, 4) + x.rung(3, 5), 0);
    }

    // ---- promise 9

    private static void hoursPlain() {
        LadderLand x = with("ladder 5;person 0 10 5 3;person 1 5 8 0;person 4 3 7 4");
        is(9, "no slip", x.hour(), 0);
        is(9, "up", x.person(0, 0), 1);
        is(9, "down", x.person(1, 0), 0);
        is(9, "stays", x.person(2, 0), 4);
        is(9, "grip by steps", x.person(0, 2) * 10 + x.person(1, 2), 47);
        is(9, "grip as told at most", x.person(2, 2), 7);
        is(9, "worn", x.rung(0, 2) * 10000 + x.rung(1, 2) * 100 + x.rung(4, 2), 51003);
        is(9, "hour 1", x.count(6), 1);
        x.hour();
        is(9, "rest", x.person(1, 2), 8);
        LadderLand u = with("ladder 3;person 0 1 9 2");
        u.hour();
        u.hour();
        is(9, "two less by two steps", u.person(0, 2), 7);
        u.hour();
        is(9, "one more by one hour", u.person(0, 2), 8);
        LadderLand y = with("ladder 3;rung 1 1 200;person 0 1 9 2;person 0 1 9 2");
        y.hour();
        is(9, "no room for the second", y.person(0, 0) * 10 + y.person(1, 0), 10);
        y.hour();
        is(9, "room made by the first", y.person(0, 0) * 10 + y.person(1, 0), 21);
        LadderLand z = with("ladder 5;broken 1;broken 2;person 0 1 9 4;person 3 1 9 0");
        z.hour();
        is(9, "no rung there", z.person(0, 0) * 10 + z.person(1, 0), 3);
        LadderLand w = with("ladder 3;person 0 1 1 0");
        for (int i = 0; i < 999; i++) {
            w.hour();
        }
        is(9, "at hour 999", w.hour(), NONE);
        is(9, "nothing happens", w.count(6), 999);
        is(9, "hours go on beyond", w.breaks(0), -2);
        is(9, "goods are there already", w.goods(1, 1), 999);
    }

    private static void hoursPassing() {
        LadderLand x = with("ladder 3;rung 0 1 200;rung 1 1 200;person 0 3 4 2;person 1 4 4 0");
        is(9, "a pass", x.hour(), 0);
        is(9, "each where the other was", x.person(0, 0) * 10 + x.person(1, 0), 10);
        is(9, "3 grip less each", x.person(0, 2) * 10 + x.person(1, 2), 11);
        is(9, "worn behind it", x.rung(0, 2) * 10 + x.rung(1, 2), 43);
        is(9, "a slip by grip", x.hour(), 1);
        is(9, "one down", x.person(0, 0), 1);
        is(9, "half as told", x.person(0, 2), 2);
        is(9, "the rung it was on is worn", x.rung(2, 2), 3);
        LadderLand y = with("ladder 4;rung 1 1 200;rung 2 3 200;person 2 1 9 2;person 2 1 9 0;person 2 1 9 0;person 1 1 9 3");
        y.hour();
        is(9, "person 1 is passed by 3", y.person(1, 0) * 10 + y.person(3, 0), 12);
        is(9, "person 2 stays", y.person(2, 0) * 10 + y.person(2, 2), 29);
        LadderLand z = with("ladder 3;rung 1 1 200;person 0 1 9 2;person 1 1 9 1");
        z.hour();
        is(9, "who does not will is not passed", z.person(0, 0) * 10 + z.person(1, 0), 1);
        LadderLand w = with("ladder 4;rung 0 1 9;rung 1 1 99;rung 2 1 99;person 1 1 9 3;person 0 1 9 3;person 2 1 9 0");
        w.hour();
        is(9, "one pass an hour", w.person(0, 0) * 100 + w.person(1, 0) * 10 + w.person(2, 0), 201);
        LadderLand v = with("ladder 4;rung 1 1 99;rung 3 1 99;broken 2;person 1 1 9 3;person 3 1 9 0");
        v.hour();
        is(9, "over a broken rung", v.person(0, 0) * 10 + v.person(1, 0), 31);
    }

    private static void hoursBreaking() {
        LadderLand x = with("ladder 4;rung 2 2 10;rung 1 2 10;person 2 10 5 2;person 1 9 5 1");
        is(9, "one breaks", x.hour(), 1);
        is(9, "slips on the next", x.person(0, 0), 1);
        is(9, "is broken", x.count(3), 4);
        is(9, "not worn by who slips", x.rung(1, 2), 9);
        is(9, "slips of the person", x.person(0, 4) * 10 + x.person(1, 4), 10);
        LadderLand y = with("ladder 4;rung 2 2 10;rung 1 2 10;person 2 10 5 2;person 1 10 5 1");
        is(9, "from the highest on", y.hour(), 3);
        is(9, "both on rung 0", y.person(0, 0) * 10 + y.person(1, 0), 0);
        is(9, "slipped twice", y.person(0, 4) * 10 + y.person(1, 4), 21);
        LadderLand z = with("ladder 4;rung 3 1 5;broken 2;broken 1;person 3 5 6 3");
        is(9, "however far", z.hour() * 10 + z.person(0, 0), 10);
        LadderLand w = with("ladder 3;rung 0 1 5;person 0 5 6 0;person 1 5 3 2");
        is(9, "falls", w.hour(), 1);
        is(9, "is nowhere", w.person(0, 0), NONE);
        is(9, "grip as it was", w.person(0, 2), 6);
        is(9, "and no more", w.count(2), 2);
        w.hour();
        is(9, "wears nothing", w.rung(0, 2), 5);
        is(9, "slips no more", w.person(0, 4), 1);
        LadderLand v = with("ladder 3;rung 0 1 5;person 0 16 6 0");
        v.hour();
        is(12, "16 is 8 then", v.mend(0), 8);
        v.hour();
        is(9, "beyond its strength it breaks again", v.rung(0, 3), 1);
    }

    private static void hoursTiring() {
        LadderLand x = with("ladder 3;person 0 5 1 2");
        is(9, "slips at 0", x.hour() * 10 + x.person(0, 0), 10);
        is(9, "1 at least", x.person(0, 2), 1);
        LadderLand y = with("ladder 3;person 1 5 1 0");
        is(9, "falls by grip", y.hour() * 10 + y.person(0, 0), 9);
        is(9, "who falls by it, too", y.person(0, 2), 1);
        LadderLand z = with("ladder 3;rung 0 1 9;rung 1 1 99;person 0 1 2 2;person 1 1 7 0");
        is(9, "below 0", z.hour(), 1);
        is(9, "half of 2", z.person(0, 2) * 10 + z.person(1, 2), 14);
        LadderLand w = with("ladder 3;person 0 5 7 2");
        for (int i = 0; i < 2; i++) {
            w.hour();
        }
        is(9, "two less", w.person(0, 2), 5);
        w.hour();
        w.hour();
        w.hour();
        is(9, "two more, no further", w.person(0, 2), 7);
    }

    // ---- promises 10 to 14

    private static void acts() {
        LadderLand x = with("ladder 5;rung 1 1 200;broken 3;person 0 3 4 2;person 1 4 4 0;person 2 5 6 4");
        is(10, "no room", x.step(0, true), NONE);
        is(10, "no rung", x.step(0, false), NONE);
        is(10, "over the broken one", x.step(2, true), 4);
        is(10, "and back", x.step(2, false), 2);
        is(10, "up beside another", x.step(1, true), 2);
        is(10, "grip as it is", x.person(1, 2), 4);
        is(10, "no person", x.step(3, true), NONE);
        is(10, "no person", x.step(-1, true), NONE);
        is(10, "acts", x.count(10), 3);
        is(11, "two rungs apart", x.pass(0, 1), false);
        is(11, "with oneself", x.pass(0, 0), false);
        is(11, "on one rung", x.pass(1, 2), false);
        x.step(1, false);
        is(11, "one above", x.pass(0, 1), true);
        is(11, "both there", x.person(0, 0) * 10 + x.person(1, 0), 10);
        is(11, "the higher one first", x.pass(0, 1), true);
        is(11, "no person", x.pass(0, 3), false);
        is(11, "no person", x.pass(-1, 0), false);
        is(12, "not worn, not broken", x.mend(0), NONE);
        is(12, "no rung", x.mend(5), NONE);
        is(12, "broken", x.mend(3), 0);
        is(12, "not any more", x.count(3), 0);
        x.hour();
        is(12, "half, downwards", x.mend(x.person(0, 0)), 1);
        is(13, "no rung", x.cut(5), NONE);
        is(13, "below", x.cut(-1), NONE);
        is(13, "nobody there", x.cut(4), 0);
        is(13, "twice", x.cut(4), NONE);
        is(14, "as it is", x.aim(0, 2), NONE);
        is(14, "another", x.aim(0, 4), 2);
        is(14, "wants it", x.person(0, 3), 4);
        is(14, "no rung", x.aim(0, 5), NONE);
        is(14, "no rung", x.aim(0, -1), NONE);
        is(14, "no person", x.aim(3, 0), NONE);
        LadderLand y = with("ladder 3;person 1 1 9 1;person 1 1 9 1;person 0 1 9 1");
        is(13, "two slip", y.cut(1), 2);
        is(13, "without asking room", y.rung(0, 4), 7);
        is(13, "grip as it is", y.person(0, 2), 9);
        is(13, "three fall", y.cut(0), 3);
        is(13, "slips", y.count(7), 5);
        is(14, "who has fallen", y.aim(0, 0), NONE);
        is(10, "who has fallen", y.step(0, true), NONE);
        is(11, "who have fallen", y.pass(0, 1), false);
        LadderLand z = with("ladder 3;rung 1 1 9;person 0 1 9 1;person 1 1 9 1;person 0 1 9 1");
        z.cut(0);
        is(11, "one of whom has fallen", z.pass(0, 1), false);
        is(11, "the other first", z.pass(1, 0), false);
        is(13, "count(2)", y.count(2), 0);
    }

    // ---- promise 15

    private static void undoing() {
        LadderLand x = with("ladder 4;rung 1 1 30;person 0 10 4 2;person 1 9 4 0");
        x.hour();
        x.aim(0, 0);
        x.cut(0);
        x.mend(0);
        x.force(NONE);
        x.seed(5);
        is(15, "nothing to undo by what was refused", x.aim(0, 0) + x.count(10), 3);
        is(15, "mend undone", x.undo(), 3);
        is(15, "broken again", x.rung(0, 3), 1);
        is(15, "cut undone", x.undo(), 2);
        is(15, "stands again", x.count(2), 3);
        is(15, "slips undone", x.count(7), 0);
        is(15, "aim undone", x.undo(), 1);
        is(15, "wants again", x.person(0, 3), 2);
        is(15, "hour undone", x.undo(), 0);
        is(15, "as at first", x.person(0, 0) * 100 + x.person(1, 0) * 10 + x.count(6) + x.count(8), 10);
        is(15, "grip again", x.person(0, 2), 4);
        is(15, "x is none of it", x.count(11), 5);
        is(15, "no more", x.undo(), NONE);
        for (int i = 0; i < 25; i++) {
            x.hour();
        }
        is(15, "twenty at most", x.count(10), 20);
        for (int i = 19; i >= 0; i--) {
            is(15, "undo", x.undo(), i);
        }
        is(15, "the older ones stay", x.count(6), 5);
        is(15, "no more", x.undo(), NONE);
        x.step(1, true);
        is(15, "and on again", x.undo(), 0);
    }

    // ---- promises 16 and 17

    private static void lookingAhead() {
        LadderLand x = with("ladder 5;person 0 5 3 4");
        is(16, "0 hours", x.ahead(0, 0, 0) * 10 + x.ahead(0, 0, 1), 3);
        is(16, "2 hours", x.ahead(0, 2, 0) * 10 + x.ahead(0, 2, 1), 21);
        is(16, "3 hours", x.ahead(0, 3, 0) * 10 + x.ahead(0, 3, 1), 21);
        is(16, "slips", x.ahead(0, 3, 2), 1);
        is(16, "a hundred", x.ahead(0, 100, 2) > 1, true);
        is(16, "nothing changes", x.count(6) + x.count(8) + x.person(0, 0), 0);
        is(16, "101 hours", x.ahead(0, 101, 0), -2);
        is(16, "-1 hours", x.ahead(0, -1, 0), -2);
        is(16, "what 3", x.ahead(0, 0, 3), -2);
        is(16, "what -1", x.ahead(0, 0, -1), -2);
        is(16, "no person", x.ahead(1, 0, 0), -2);
        LadderLand y = with("ladder 3;rung 0 1 5;person 0 5 6 0");
        is(16, "fallen", y.ahead(0, 1, 0), NONE);
        y.hour();
        is(16, "slips of all hours", y.ahead(0, 7, 2), 1);
    }

    private static void breaking() {
        LadderLand x = with("ladder 4;rung 2 2 30;rung 1 2 30;person 2 10 5 2;person 1 10 5 1");
        is(17, "the highest", x.breaks(0), 2);
        is(17, "the hour at its begin", x.breaks(1), 2);
        x.hour();
        is(17, "the same hour", x.breaks(1), 2);
        is(17, "what 2", x.breaks(2), NONE);
        is(17, "what -1", x.breaks(-1), NONE);
        LadderLand y = with("ladder 3;rung 0 1 201;person 0 1 5 0");
        is(17, "not in 200 hours", y.breaks(0), -2);
        is(17, "nor its hour", y.breaks(1), -2);
        y.hour();
        is(17, "in the last of 200", y.breaks(1), 200);
        is(17, "nobody", with("ladder 3").breaks(0), -2);
    }

    // ---- promises 18 to 20

    private static void moving() {
        LadderLand x = with("ladder 4;rung 1 1 9;rung 2 1 9;person 0 1 1 3;person 1 1 1 0;person 3 1 1 3");
        is(18, "none", x.moves(0), 0);
        is(18, "who is there", x.moves(4), 0);
        is(18, "one", x.moves(2), 1);
        is(18, "person 0", x.moves(1), 3);
        is(18, "all", x.moves(7), 3);
        is(19, "first a pass", x.move(7, 0, 0) * 100 + x.move(7, 0, 1) * 10 + x.move(7, 0, 2), 21);
        is(19, "then up", x.move(7, 1, 0) * 10 + x.move(7, 1, 1), 0);
        is(19, "no pass", x.move(7, 1, 2), NONE);
        is(19, "up", x.move(7, 2, 1), 0);
        is(19, "so many there are not", x.move(7, 3, 0), -2);
        is(19, "k below 0", x.move(7, -1, 0), -3);
        is(19, "what 3", x.move(7, 0, 3), -3);
        is(19, "what -1", x.move(7, 0, -1), -3);
        is(19, "no set", x.move(8, 0, 0), -3);
        is(18, "no set", x.moves(8), NONE);
        is(18, "no set", x.moves(-1), NONE);
        LadderLand y = with("ladder 4;broken 1;broken 2;person 0 1 1 3;person 0 1 1 1");
        is(18, "no way", y.moves(1), -2);
        is(18, "a broken rung", y.moves(2), -2);
        is(19, "no row", y.move(1, 0, 0), -2);
        y.cut(0);
        is(18, "fallen", y.moves(2), -2);
        is(18, "none of them", y.moves(0), 0);
        is(20, "fallen", y.squeeze(1), -2);
        LadderLand z = with("ladder 3;person 0 1 1 1;person 0 1 1 1");
        is(19, "the lesser person first", z.move(3, 0, 0) * 10 + z.move(3, 1, 0), 1);
        LadderLand w = with("ladder 3;rung 0 1 9;rung 1 1 9;person 1 1 1 1;person 0 1 1 1;person 2 1 1 2");
        is(18, "together is no way: one room", w.moves(3), -2);
        is(18, "one makes way", w.moves(2), 1);
        is(19, "by a pass", w.move(2, 0, 1), 2);
        LadderLand v = with("ladder 3;rung 0 2 9;rung 1 1 9;person 1 1 1 1;person 0 1 1 2;person 0 1 1 0");
        is(18, "a pass and a step", v.moves(2), 2);
        is(19, "person 0 passes ahead of person 1's step", v.move(2, 0, 0) * 10 + v.move(2, 0, 1), 2);
    }

    private static void squeezing() {
        LadderLand x = with("ladder 3;rung 0 1 9;rung 1 1 9;rung 2 1 9;person 0 1 1 2;person 1 1 1 0");
        is(18, "fewest moves", x.moves(3), 2);
        is(20, "one pass at least", x.squeeze(3), 1);
        is(20, "one alone, by room", with("ladder 3;rung 1 2 9;person 0 1 1 2;person 1 1 1 0").squeeze(3), 0);
        LadderLand y = with("ladder 4;rung 0 2 9;rung 1 1 9;rung 2 1 9;rung 3 1 9;person 1 1 1 2;person 2 1 1 0");
        is(18, "a pass is short", y.moves(3), 2);
        is(20, "no pass, however long", y.squeeze(3), 0);
        is(20, "nobody", y.squeeze(0), 0);
        is(20, "no set", y.squeeze(4), NONE);
        is(20, "no set", y.squeeze(-1), NONE);
        is(20, "no way", with("ladder 3;broken 1;broken 2;person 0 1 1 2").squeeze(1), -2);
    }

    // ---- promise 21

    private static void mending() {
        LadderLand x = with("ladder 4;rung 2 2 100;rung 1 2 100;person 2 10 5 2;person 1 8 5 1");
        is(21, "nothing worn", x.mending(0), -2);
        is(21, "nor the hour", x.mending(1), -2);
        for (int i = 0; i < 8; i++) {
            x.hour();
        }
        // rung 2 is worn 80 of 100, rung 1 64 of 100: mended, rung 2 bears 60 more, but rung 1 36, 5 hours
        is(21, "rung 2", x.mending(0), 2);
        is(21, "the hour then", x.mending(1), 12);
        is(21, "what 2", x.mending(2), -3);
        is(21, "what -1", x.mending(-1), -3);
        is(21, "nothing changes", x.rung(2, 2), 80);
        LadderLand y = with("ladder 3;rung 0 1 999;broken 1;broken 2;person 0 1 5 0");
        is(21, "never, the least", y.mending(0), 1);
        is(21, "never", y.mending(1), NONE);
        LadderLand z = with("ladder 3;rung 0 1 999;rung 1 1 40;person 1 10 5 1;person 0 1 5 0");
        z.hour();
        LadderLand w = with("ladder 4;rung 0 1 40;broken 2;broken 3;person 0 4 5 0");
        is(21, "of several the least", w.mending(0) * 100 + w.mending(1), 209);
        is(21, "of several the later one", z.mending(0) * 100 + z.mending(1), 104);
    }

    // ---- promises 22 and 23

    private static void capitals() {
        LadderLand x = with("ladder 5;rung 3 2 9;person 1 1 1 1;person 3 1 1 1;person 3 1 1 1");
        is(22, "most", x.capital(), 3);
        // none: 3; person 0 up or down: 3; person 1 down: 2 1 3 each one, so 1; up: 1
        is(23, "ballot", x.ballot(), 1 << 3 | 1 << 1);
        x.step(1, true);
        is(22, "of several the least", x.capital(), 1);
        // 0 down 0; 0 up 2; 1 down 3 (two there); 2 up 4 (two there); 2 down 1: rungs 1 2 4, so 1
        is(23, "ballot", x.ballot(), 1 | 1 << 1 | 1 << 2 | 1 << 3 | 1 << 4);
        is(22, "nobody", with("ladder 3").capital(), NONE);
        is(23, "nobody", with("ladder 3").ballot(), 0);
        LadderLand y = with("ladder 3;rung 0 1 9;rung 1 1 9;rung 2 1 9;person 0 1 1 1;person 1 1 1 1;person 2 1 1 1");
        is(23, "no room to step", y.ballot(), 1);
        y.cut(2);
        is(22, "crowded by a slip", y.capital(), 1);
    }

    // ---- promise 24

    private static void holding() {
        LadderLand x = with("ladder 5;rung 0 1 9;person 1 1 1 1");
        is(24, "held off the ladder", x.hold(1, 0), NONE);
        is(24, "by going down", x.hold(1, 1), 1);
        is(24, "four turns", x.hold(4, 0), NONE);
        is(24, "0 turns", x.hold(0, 0), -2);
        is(24, "5 turns", x.hold(5, 0), -2);
        is(24, "what 2", x.hold(1, 2), -2);
        is(24, "what -1", x.hold(1, -1), -2);
        x.step(0, false);
        is(24, "none is best", x.hold(4, 1), NONE);
        LadderLand y = with("ladder 3;person 2 1 1 1");
        is(24, "nothing helps", y.hold(4, 0), 2);
        is(24, "then none", y.hold(4, 1), NONE);
        is(24, "one turn", y.hold(1, 0), 0);
        LadderLand z = with("ladder 6;rung 2 1 9;broken 0;person 5 1 1 1;person 5 1 1 1");
        // a step each to 4, 3 and 2: it is on 0 (broken or not), on 1, and there rung 2 is full
        is(24, "held at 1", z.hold(4, 0), 1);
        is(24, "the least step", z.hold(4, 1), 1);
        is(24, "nobody", with("ladder 3").hold(2, 0), 1);
        is(24, "the top", with("ladder 3").hold(4, 0), 2);
        LadderLand w = with("ladder 4;rung 1 1 9;person 0 1 1 1;person 2 1 1 1");
        is(24, "waiting is none", w.hold(2, 0) * 10 + w.hold(2, 1), -1);
    }

    // ---- promises 25 and 26

    private static void goods() {
        LadderLand x = with("ladder 4;person 0 1 9 0;person 1 1 9 1;person 2 1 9 3");
        // behind hour 0 people are on 0, 1, 3: the goods go to 1; then 2 stays empty
        is(25, "one rung", x.goods(0, 1), 0);
        is(25, "there already", x.goods(2, 2), 0);
        is(25, "never", x.goods(0, 3), -2);
        is(25, "down", x.goods(1, 0), 0);
        x.hour();
        is(25, "told at its begin", x.goods(0, 1), 1);
        is(25, "no rung", x.goods(0, 4), NONE);
        is(25, "no rung", x.goods(-1, 0), NONE);
        LadderLand y = with("ladder 4;person 0 1 9 0;person 1 1 9 1;person 2 1 9 2;person 3 1 9 3");
        is(25, "one rung an hour", y.goods(0, 3), 2);
        is(25, "down likewise", y.goods(3, 1), 1);
        LadderLand z = with("ladder 3;person 0 1 9 0;person 2 1 9 1");
        z.force(NONE);
        is(25, "by the want", z.goods(0, 1), 0);
        is(25, "nobody where they lie", with("ladder 3;person 1 1 9 1").goods(0, 1), -2);
        LadderLand w = with("ladder 3;rung 0 2 999;rung 2 2 999;person 0 1 9 0;person 2 1 9 2",
            "climb 0-person if hour=199", "climb 0-person if hour=200");
        w.force(0);
        is(25, "in the last of 200", w.goods(0, 1), 199);
        w.force(1);
        is(25, "behind these", w.goods(0, 1), -2);
    }

    private static void standing() {
        LadderLand x = with("ladder 3;rung 0 2 30;broken 2;person 0 4 9 0");
        is(26, "4 and 6: 3 hours", x.stand(0, 6), 3);
        is(26, "4 and 5: 4 hours", x.stand(0, 5), 4);
        is(26, "nobody there", x.stand(1, 20), 10);
        is(26, "weight 0", x.stand(0, 0), NONE);
        is(26, "weight 21", x.stand(0, 21), NONE);
        is(26, "broken", x.stand(2, 1), NONE);
        is(26, "no rung", x.stand(3, 1), NONE);
        is(26, "no rung", x.stand(-1, 1), NONE);
        x.hour();
        is(26, "worn by 4", x.stand(0, 9), 2);
        LadderLand y = with("ladder 3;rung 0 1 5;person 0 16 6 0");
        y.hour();
        y.mend(0);
        is(26, "worn beyond its strength", y.stand(0, 1), 1);
    }

    // ---- promises 27 to 29

    private static void notes() {
        LadderLand x = with("ladder 4;person 0 1 9 2", "climb 0", "climb 1", "climb 0-1");
        is(28, "without notes all", x.ruled(0), 4);
        is(28, "none first", x.ruled(1), NONE);
        // at hour 1: none 1, rule 0 0, rule 1 1, rule 2 0; at hour 3: 2, 0, 3, 0
        is(29, "two and two", x.look(1, 1), 2);
        is(29, "the least rung", x.look(1, 0), 0);
        is(29, "hour 3: rung 0 parts two and two", x.look(3, 0) * 10 + x.look(3, 1), 2);
        is(29, "hour 0: all alike", x.look(0, 0) * 10 + x.look(0, 1), 4);
        is(27, "a note", x.note(1, 1, 1), 1);
        is(28, "two", x.ruled(0), 2);
        is(29, "rung 2 parts these", x.look(3, 0) * 10 + x.look(3, 1), 21);
        is(27, "another", x.note(3, 3, 1), 2);
        is(28, "one", x.ruled(0) * 10 + x.ruled(1), 11);
        is(27, "and one that is not so", x.note(0, 0, 0), 3);
        is(28, "no rule", x.ruled(0), 0);
        is(28, "no first", x.ruled(1), -2);
        is(29, "no rule", x.look(1, 0), -2);
        is(28, "what 2", x.ruled(2), -3);
        is(28, "what -1", x.ruled(-1), -3);
        is(29, "what 2", x.look(1, 2), NONE);
        is(29, "hour 60", x.look(60, 0), -2);
        is(29, "hour 61", x.look(61, 0), NONE);
        is(29, "hour -1", x.look(-1, 0), NONE);
        is(27, "hour 61", x.note(61, 0, 0), -2);
        is(27, "hour -2", x.note(-2, 0, 0), -2);
        is(27, "many 5", x.note(0, 0, 5), -2);
        is(27, "many -1", x.note(0, 0, -1), -2);
        is(27, "no rung", x.note(0, 4, 0), -2);
        is(27, "nothing happened", x.count(9), 3);
        is(27, "there are none then", x.note(NONE, 9, 9), 0);
        is(28, "all again", x.ruled(0), 4);
        for (int i = 1; i <= 10; i++) {
            is(27, "note " + i, x.note(60, 0, 4), i);
        }
        is(27, "an eleventh", x.note(0, 0, 0), -2);
        x.note(NONE, 0, 0);
        x.note(2, 2, 1);
        x.aim(0, 0);
        x.cut(1);
        x.hour();
        is(28, "from the begin on, as the text told it", x.ruled(0) * 10 + x.ruled(1), 19);
    }

    // ---- promises 30 and 31

    private static void draws() {
        LadderLand x = with("ladder 3;person 1 1 2 1");
        is(30, "0 at first", x.seed(5), 0);
        is(30, "5 was", x.seed(Integer.MAX_VALUE), 5);
        is(30, "below 0", x.seed(-1), NONE);
        is(30, "nothing happened", x.seed(0), Integer.MAX_VALUE);
        is(31, "no wind", x.years(10, 60, 0, 0), 0);
        // grip 2 is 1 by the wind, and 2 again by the hour: nobody ever slips who stays
        is(31, "who stays", x.years(1, 60, 100, 0), 0);
        is(31, "m 0", x.years(0, 1, 0, 0), NONE);
        is(31, "m 11", x.years(11, 1, 0, 0), NONE);
        is(31, "n 0", x.years(1, 0, 0, 0), NONE);
        is(31, "n 61", x.years(1, 61, 0, 0), NONE);
        is(31, "p -1", x.years(1, 1, -1, 0), NONE);
        is(31, "p 101", x.years(1, 1, 101, 0), NONE);
        is(31, "what 2", x.years(1, 1, 0, 2), NONE);
        is(31, "what -1", x.years(1, 1, 0, -1), NONE);
        // down by one from grip 2: the wind leaves 1, the step 0: they slip off rung 0
        LadderLand y = with("ladder 3;person 1 1 2 0;person 1 1 9 1");
        is(31, "one slip a year", y.years(3, 1, 100, 0), 3);
        is(31, "one falls a year", y.years(3, 1, 100, 1), 3);
        is(31, "no wind, no slip", y.years(3, 1, 0, 0), 0);
        LadderLand v = with("ladder 3;person 0 1 2 1;person 1 1 9 1");
        is(31, "a slip that is no fall", v.years(2, 1, 100, 0) * 10 + v.years(2, 1, 100, 1), 20);
        LadderLand u = with("ladder 3;rung 0 1 2;person 0 1 9 0");
        is(31, "not in the second hour", u.years(4, 1, 0, 1), 0);
        is(31, "in the second hour", u.years(4, 2, 0, 1), 4);
        is(31, "nothing stays", y.count(6) * 100 + y.count(7) * 10 + y.person(0, 2), 2);
        is(31, "x as it was", y.count(11), 0);
        // the draws from 0: x is 12345 (0), then 1406932606 (21468), 654583775 (9988), 1449466924 (22117): 0, 68, 88, 17
        LadderLand z = with("ladder 3;person 1 1 2 0");
        is(31, "0 is not below 0", z.years(1, 1, 0, 1), 0);
        is(31, "0 is below 1", z.years(1, 1, 1, 1), 1);
        is(31, "x goes on: 68", z.years(2, 1, 68, 1), 1);
        is(31, "68 is below 69", z.years(2, 1, 69, 1), 2);
        is(31, "then 88", z.years(3, 1, 88, 1), 2);
        is(31, "then 17", z.years(4, 1, 18, 1), 2);
    }

    // ---- promise 32

    private static void counts() {
        LadderLand x = with("ladder 5;broken 3;person 0 10 5 3;person 1 5 8 0", "climb 0");
        x.force(0);
        x.hour();
        x.cut(0);
        x.note(1, 1, 1);
        x.seed(9);
        x.feed(0, 0, 0, 0, 0);
        int[] due = {5, 2, 2, 9, 1, 0, 1, 1, 15, 1, 2, 9, 20};
        for (int what = 0; what < due.length; what++) {
            is(32, "what " + what, x.count(what), due[what]);
        }
        is(32, "what 13", x.count(13), NONE);
        is(32, "what -1", x.count(-1), NONE);
    }

    // ---- promises 33 and 34

    private static void images() {
        LadderLand x = new LadderLand();
        is(33, "nothing told yet", x.image(3), 0);
        is(34, "never made", x.back(0), NONE);
        Bytes.put(x, "ladder 4;person 0 1 9 3");
        x.ladder();
        Bytes.put(x, "climb 0");
        x.rule();
        x.hour();
        x.note(1, 1, 1);
        x.seed(8);
        is(33, "the hour", x.image(0), 1);
        is(33, "image 4", x.image(4), NONE);
        is(33, "image -1", x.image(-1), NONE);
        is(33, "an act can still be undone", x.count(10), 1);
        x.force(0);
        x.note(1, 0, 0);
        x.seed(3);
        x.cut(1);
        x.aim(0, 0);
        Bytes.put(x, "climb 1");
        x.rule();
        Bytes.put(x, "ladder 9;broken 4");
        x.ladder();
        x.feed(0, 0, 0, 0, 0);
        is(34, "back", x.back(0), 1);
        is(34, "the ladder", x.count(0) * 10 + x.count(1), 41);
        is(34, "where they were", x.person(0, 0) * 10 + x.person(0, 3), 13);
        is(34, "not broken", x.count(3), 0);
        is(34, "the rule in force", x.count(5), NONE);
        is(34, "the notes", x.count(9), 1);
        is(34, "x", x.count(11), 8);
        is(34, "the rules stay", x.count(4), 2);
        is(34, "the tape stays", x.count(12), 20);
        is(34, "nothing can be undone", x.undo(), NONE);
        is(34, "notes are as they were", x.ruled(0), 2);
        x.hour();
        is(34, "again and again", x.back(0), 1);
        is(34, "to nothing", x.back(3), 0);
        is(34, "no ladder", x.count(0) + x.count(1) + x.count(9) + x.count(11), 0);
        is(34, "no hour", x.hour(), NONE);
        is(34, "image 4", x.back(4), NONE);
        is(34, "image -1", x.back(-1), NONE);
        is(34, "and back once more", x.back(0), 1);
    }
}
