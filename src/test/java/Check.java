import java.util.function.Supplier;
import java.util.function.ToIntFunction;

/** What the tests share: answers held against what is due, objects that were told texts, calls that are refused. */
abstract class Check {
    static final int NONE = LadderLand.NONE;
    static final int MIN = Integer.MIN_VALUE;
    static final int MAX = Integer.MAX_VALUE;
    private static int wrong = 0;
    private static int asked = 0;
    private static String at = "";

    /** What follows is told of as being there, if it is wrong. */
    static void place(String where) {
        at = where + ": ";
    }

    static void is(String what, long got, long due) {
        asked++;
        if (got != due) {
            wrong++;
            System.out.println(at + what + ": answered " + got + ", due is " + due);
        }
    }

    static void is(String what, boolean got, boolean due) {
        is(what, got ? 1 : 0, due ? 1 : 0);
    }

    static void is(int promise, String what, long got, long due) {
        is("promise " + promise + ", " + what, got, due);
    }

    static void is(int promise, String what, boolean got, boolean due) {
        is(promise, what, got ? 1 : 0, due ? 1 : 0);
    }

    static void same(String what, String got, String due) {
        asked++;
        if (!got.equals(due)) {
            wrong++;
            System.out.println(at + what + ": shows\n  " + got + "\n  due is\n  " + due);
        }
    }

    static void end(String name) {
        System.out.println(name + ": " + (asked - wrong) + " answers as due, " + wrong + " not");
        if (wrong != 0) {
            System.exit(1);
        }
    }

    static LadderLand with(String ladder, String... rules) {
        LadderLand x = new LadderLand();
        Bytes.put(x, ladder);
        int people = x.ladder();
        if (people < 0) {
            is("a good text: " + ladder, people, 0);
        }
        for (int i = 0; i < rules.length; i++) {
            Bytes.put(x, rules[i]);
            is("a good rule: " + rules[i], x.rule(), i);
        }
        return x;
    }

    /** The last of the rules that are told is in force. */
    static LadderLand ruledBy(String ladder, String... rules) {
        LadderLand x = with(ladder, rules);
        x.force(rules.length - 1);
        return x;
    }

    static int ladderOf(String text) {
        LadderLand x = new LadderLand();
        Bytes.put(x, text);
        return x.ladder();
    }

    static int ruleOf(String text) {
        LadderLand x = new LadderLand();
        Bytes.put(x, text);
        return x.rule();
    }

    static int fault(int place, int kind) {
        return -2 - (1 + 8 * place + kind);
    }

    static String times(String piece, int n) {
        return piece.repeat(n);
    }

    static void live(LadderLand x, int hours) {
        for (int i = 0; i < hours; i++) {
            x.hour();
        }
    }

    /** The rungs of the first people as one number, 9 for who has fallen. */
    static int stands(LadderLand x, int people) {
        int all = 0;
        for (int p = 0; p < people; p++) {
            int rung = x.person(p, 0);
            all = all * 10 + (rung == NONE ? 9 : rung);
        }
        return all;
    }

    /** A call that answers what is due and leaves all as it was, what can still be undone and gone back to, too. */
    static void leaves(String what, Supplier<LadderLand> scene, ToIntFunction<LadderLand> call, int due) {
        LadderLand x = scene.get();
        String ahead = Sight.of(x);
        is(what, call.applyAsInt(x), due);
        same(what + ", what is seen", Sight.of(x), ahead);
        LadderLand y = scene.get();
        call.applyAsInt(y);
        same(what + ", what is kept", Sight.rest(y), Sight.rest(scene.get()));
    }

    /** The same call for each of these numbers. */
    static void leavesEach(String what, Supplier<LadderLand> scene, int[] numbers, Call call, int due) {
        for (int n : numbers) {
            leaves(what + " " + n, scene, x -> call.of(x, n), due);
        }
    }

    interface Call {
        int of(LadderLand x, int n);
    }

    static int[] numbers(int... all) {
        return all;
    }

    static int bit(boolean answer) {
        return answer ? 1 : 0;
    }
}
