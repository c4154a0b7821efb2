/** Promises 27 to 29: notes, the rules by which they were so, and where to look next, sentence by sentence. */
final class NoteBounds extends Bounds {
    private NoteBounds() {
    }

    static void all() {
        noting();
        ruled();
        look();
    }

    // ---- promise 27

    private static void noting() {
        said(27, "NOTES 0 to 9, told: at the begin of the n-th HOUR of all (0 to 60) so many stood on a RUNG", () -> {
            LadderLand x = with("ladder 9;person 0 1 30 8");
            is("the first hour", x.note(0, 0, 1), 1);
            is("is so", x.ruled(0), 1);
            is("the last hour, the highest rung", x.note(60, 8, 1), 2);
            is("is so", x.ruled(0), 1);
            is("on the way", x.note(7, 7, 1), 3);
            is("is so", x.ruled(0), 1);
            is("an hour later", x.note(8, 7, 1), 4);
            is("is not so", x.ruled(0), 0);
        });
        said(27, "0 to 4 of them): how many", () -> {
            LadderLand x = with("ladder 3;rung 0 4 999" + times(";person 0 1 1 0", 4));
            is("four there, none here", x.note(0, 0, 4) * 10 + x.note(60, 1, 0), 12);
            is("are so", x.ruled(0), 1);
            is("three", x.note(0, 0, 3), 3);
            is("are not so", x.ruled(0), 0);
            is("more than there are", with("ladder 3").note(0, 0, 4), 1);
        });
        said(27, "A NOTE (n NONE: there are none then, 0", () -> {
            LadderLand x = Scenes.full();
            is("ten", x.count(9), 10);
            is("none", x.note(NONE, 0, 0), 0);
            is("none then", x.count(9), 0);
            is("all are so", x.ruled(0), 7);
            is("the first again", x.note(0, 3, 4), 1);
            is("what was noted is gone", x.ruled(0), 0);
            is("whatever the rest is", x.note(NONE, -1, 99), 0);
            is("none of none", x.note(NONE, MAX, MIN), 0);
            is("no act", x.count(10), 20);
            is("without a ladder", new LadderLand().note(NONE, 0, 0), 0);
        });
        said(27, "-2, and nothing happens, without these, or if there are 10", () -> {
            leavesEach("hour", Scenes::lived, numbers(61, 62, -2, -3, MIN, MAX), (x, n) -> x.note(n, 0, 0), -2);
            leavesEach("rung", Scenes::lived, numbers(6, 8, -1, -2, MIN, MAX), (x, r) -> x.note(0, r, 0), -2);
            leavesEach("of five, rung", Scenes::told, numbers(5, 9, -1), (x, r) -> x.note(0, r, 0), -2);
            leavesEach("how many", Scenes::lived, numbers(5, 6, -1, -2, MIN, MAX), (x, many) -> x.note(0, 0, many), -2);
            leavesEach("an eleventh", Scenes::full, numbers(0, 1, 60), (x, n) -> x.note(n, 0, 0), -2);
            leavesEach("no ladder", Scenes::untold, numbers(0, 1, 60), (x, n) -> x.note(n, 0, 0), -2);
            LadderLand x = Scenes.told();
            for (int i = 1; i <= 10; i++) {
                is("note", x.note(0, 0, 0), i);
            }
            is("an eleventh", x.note(0, 0, 0), -2);
            is("ten stay", x.count(9), 10);
        });
    }

    // ---- promise 28

    private static void ruled() {
        said(28, "which of the RULES, and of none, so that from the begin on, all as the text told it, all NOTES are so: how many", () -> {
            for (int rules = 0; rules <= 6; rules++) {
                LadderLand x = rules("ladder 3;person 1 1 9 1", rules);
                is("no note, rules " + rules, x.ruled(0) * 10 + x.ruled(1), (rules + 1) * 10 - 1);
                x.note(1, 1, 1);
                is("who stays", x.ruled(0), 1 + (rules + 2) / 3);
                x.note(1, 1, 0);
                is("both can't be", x.ruled(0) * 10 + x.ruled(1), -2);
            }
            LadderLand x = rules("ladder 4;rung 2 1 5;broken 3;person 1 4 9 2;person 2 2 9 2", 6);
            x.note(2, 1, 2);
            String seen = x.ruled(0) + " " + x.ruled(1);
            live(x, 2);
            x.cut(0);
            x.aim(0, 3);
            x.mend(3);
            x.step(0, true);
            x.force(4);
            is("in hours that are asked, too", x.ahead(1, 100, 2) > 0, true);
            same("whatever has come since", x.ruled(0) + " " + x.ruled(1), seen);
        });
        said(28, "from the begin on, all as the text told it", () -> {
            LadderLand x = with("ladder 5;rung 3 2 4;person 3 1 9 3", "climb 0-slips", "climb 0-hour", "climb grip-told", "climb 0-worn/3");
            x.note(2, 3, 1);
            for (int i = 0; i < 5; i++) {
                is("all but rule 1, which comes down in hour 1", x.ruled(0), 4);
                x.note(4, 2, 1);
                is("rule 3 comes down in hour 3; by the others they slip", x.ruled(0) * 10 + x.ruled(1), 39);
                x.note(NONE, 0, 0);
                x.note(2, 3, 1);
                x.hour();
                x.ahead(0, 20, 2);
            }
        });
        said(28, "RULED what 0: how many, 1: the first (NONE: none; -2: there is none such)", () -> {
            // rule 0 stays, 1 climbs, 2 comes down, and so on
            LadderLand x = rules("ladder 3;person 1 1 9 1", 6);
            x.note(1, 2, 1);
            is("rule 1", x.ruled(1) * 10 + x.ruled(0), 12);
            x.note(NONE, 0, 0);
            x.note(1, 0, 1);
            is("rule 2", x.ruled(1) * 10 + x.ruled(0), 22);
            LadderLand y = with("ladder 3;person 1 1 9 1", "climb 0", "climb 0", "climb 0", "climb 0", "climb 0", "climb 1");
            y.note(1, 2, 1);
            is("the last alone", y.ruled(1) * 10 + y.ruled(0), 51);
            LadderLand z = with("ladder 3;person 1 1 9 2", "climb 0", "climb 1");
            z.note(1, 1, 1);
            is("rule 0, not none", z.ruled(1) * 10 + z.ruled(0), 1);
            z.note(1, 1, 2);
            is("there is none such", z.ruled(1), -2);
            is("none of them", z.ruled(0), 0);
        });
        said(28, "the first (none ahead of 0, told as NONE)", () -> {
            LadderLand x = with("ladder 3;person 1 1 9 1", "climb 0", "climb 1");
            x.note(1, 1, 1);
            is("both none and rule 0 are so", x.ruled(0), 2);
            is("none is the first", x.ruled(1), NONE);
            LadderLand y = with("ladder 3;person 1 1 9 2", "climb 0", "climb 0");
            y.note(1, 1, 1);
            is("two, and none is not so", y.ruled(0) * 10 + y.ruled(1), 20);
        });
        said(28, "-3 for others, or without a LADDER", () -> {
            leavesEach("what", Scenes::lived, numbers(2, 3, -1, -2, MIN, MAX), LadderLand::ruled, -3);
            leavesEach("what of the fullest", Scenes::full, numbers(2, -1), LadderLand::ruled, -3);
            leavesEach("no ladder", Scenes::untold, numbers(0, 1, 2, -1), LadderLand::ruled, -3);
        });
    }

    /** Rule 0 stays, 1 climbs, 2 comes down, and so on. */
    private static LadderLand rules(String ladder, int many) {
        String[] all = new String[many];
        for (int i = 0; i < many; i++) {
            all[i] = "climb " + new String[] {"0", "1", "0-1"}[i % 3];
        }
        return with(ladder, all);
    }

    // ---- promise 29

    private static void look() {
        said(29, "LOOK at the n-th HOUR (0 to 60) what 0: the RUNG, 1: how many", () -> {
            LadderLand x = with("ladder 3;rung 1 2 61;person 1 1 9 1;person 0 1 9 0", "climb 0 if hour<59;climb person-1", "climb 0");
            is("hour 0: all alike", x.look(0, 0) * 10 + x.look(0, 1), 3);
            is("hour 59: all alike", x.look(59, 0) * 10 + x.look(59, 1), 3);
            is("hour 60: rule 0 has come down", x.look(60, 0) * 10 + x.look(60, 1), 2);
            x.note(59, 1, 1);
            is("no less with a note", x.look(60, 1), 2);
            LadderLand y = with("ladder 3;person 1 1 9 1", "climb 1 if hour=0;climb 0-1 if hour=1");
            y.note(60, 1, 1);
            is("ahead of the last note: 1, where these part", y.look(1, 0) * 10 + y.look(1, 1), 11);
            is("and 2, where they don't", y.look(2, 0) * 10 + y.look(2, 1), 2);
        });
        said(29, "-2: no RULE is so", () -> {
            LadderLand x = Scenes.lived();
            x.note(0, 0, 4);
            is("which", x.look(0, 0), -2);
            is("how many", x.look(60, 1), -2);
        });
        said(29, "NONE without these, or a LADDER", () -> {
            leavesEach("hour", Scenes::lived, numbers(61, 62, -1, -2, MIN, MAX), (x, n) -> x.look(n, 0), NONE);
            leavesEach("what", Scenes::lived, numbers(2, 3, -1, -2, MIN, MAX), (x, what) -> x.look(0, what), NONE);
            leavesEach("no ladder", Scenes::untold, numbers(0, 1, 60), (x, n) -> x.look(n, 0), NONE);
            LadderLand x = Scenes.told();
            x.note(0, 0, 4);
            is("nor where no rule is so", x.look(61, 0) * 10 + x.look(0, 2), -11);
        });
        said(29, "the RUNG by how many stand on which these part best: the most alike are fewest, of several the least; how many", () -> {
            LadderLand x = rules("ladder 3;person 1 1 9 1", 3);
            // none and rule 0 stay on 1, rule 1 is on 2, rule 2 on 0: 3 and 1, 2 and 2, 3 and 1
            is("two and two", x.look(1, 0) * 10 + x.look(1, 1), 12);
            LadderLand y = rules("ladder 3;person 1 1 9 1", 0);
            is("none alone", y.look(1, 0) * 10 + y.look(1, 1), 1);
            LadderLand z = rules("ladder 3;person 1 1 9 1", 2);
            // on 1, 1 and 2: rung 0 parts none of three, rungs 1 and 2 two from one
            is("of several the least", z.look(1, 0) * 10 + z.look(1, 1), 12);
            LadderLand v = rules("ladder 9;person 8 1 9 8", 6);
            // rules 2 and 5 come down
            is("five and two", v.look(1, 0) * 10 + v.look(1, 1), 75);
            LadderLand w = rules("ladder 3;rung 1 4 9;person 1 1 9 1;person 1 1 9 1;person 1 1 9 2;person 1 1 9 0", 3);
            // on rung 1: two by none, four by rule 0, two by rules 1 and 2 each, as two find room
            is("three and one", w.look(1, 0) * 10 + w.look(1, 1), 2);
            w.note(1, 0, 2);
            is("of the one that is so", w.look(1, 0) * 10 + w.look(1, 1), 1);
            LadderLand u = with("ladder 3;person 1 1 9 1", "climb 0", "climb 0", "climb 0-1", "climb 0-1", "climb 0-1", "climb 0-1");
            is("all seven alike", u.look(0, 0) * 10 + u.look(0, 1), 7);
            is("three and four, the last among these", u.look(1, 0) * 10 + u.look(1, 1), 4);
            LadderLand s = with("ladder 3;rung 1 4 999" + times(";person 1 1 9 1", 4), "climb 0", "climb 0");
            is("four stand on one", s.look(60, 0) * 10 + s.look(60, 1), 3);
            LadderLand q = with("ladder 9;person 3 1 9 3", "climb 0-1");
            is("rung 2 parts them, and rung 3", q.look(1, 0) * 10 + q.look(1, 1), 21);
            Bytes.put(q, "ladder 3;person 0 1 9 0");
            q.ladder();
            is("no rung of a ladder that was", q.look(1, 0) * 10 + q.look(1, 1), 2);
        });
    }
}
