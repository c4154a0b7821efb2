/** Promises 30 to 34: draws, years, counts and images, sentence by sentence. */
final class KeptBounds extends Bounds {
    private KeptBounds() {
    }

    static void all() {
        seeding();
        draws();
        years();
        counts();
        images();
        back();
    }

    // ---- promise 30

    private static void seeding() {
        said(30, "x becomes a number: what it was", () -> {
            LadderLand x = new LadderLand();
            is("0 at first", x.seed(0), 0);
            is("0", x.seed(1), 0);
            is("1", x.seed(MAX), 1);
            is("the highest", x.count(11), MAX);
            is("and off it", x.seed(0), MAX);
            is("without a ladder", x.count(11), 0);
        });
        said(30, "NONE, and nothing happens, below 0", () -> {
            leavesEach("below 0", Scenes::full, numbers(-1, -2, MIN), LadderLand::seed, NONE);
            leavesEach("below 0", Scenes::fresh, numbers(-1, MIN), LadderLand::seed, NONE);
        });
        said(30, "x (0 to 2147483647; 0 at first) becomes x * 1103515245 + 12345, of 2147483648 the rest; a DRAW is x / 65536", () -> {
            // x: the next one, the draw of it, what is left of a hundred
            // 0: 12345, 0, 0; 2147483647: 1043980748, 15929, 29; 1: 1103527590, 16838, 38; 1073741824: 12345 + 1073741824, 16384, 84
            int[][] due = {{0, 0}, {MAX, 29}, {1, 38}, {1073741824, 84}};
            for (int[] d : due) {
                LadderLand x = loose(d[0]);
                is("not below it, x " + d[0], x.years(1, 1, d[1], 1), 0);
                is("below one more, x " + d[0], x.years(1, 1, d[1] + 1, 1), 1);
                is("x as it was", x.count(11), d[0]);
            }
        });
    }

    /** One person who falls in the first hour, if the draw takes them a grip. */
    private static LadderLand loose(int seed) {
        LadderLand x = with("ladder 3;person 1 1 2 0");
        x.seed(seed);
        return x;
    }

    // ---- promise 31

    private static void draws() {
        said(31, "ahead of each, of each PERSON not FALLEN, by numbers, a DRAW mod 100: below p (0 to 100) they have 1 GRIP less (not below 1)", () -> {
            is("p 0: nobody", with("ladder 3;person 1 1 2 0").years(10, 60, 0, 0), 0);
            is("p 100: everybody", with("ladder 3;person 1 1 2 0").years(10, 1, 100, 1), 10);
            is("grip 1 stays 1", with("ladder 3;person 1 1 1 1").years(10, 60, 100, 0), 0);
            is("grip 1 stays 1, and a step is one too much by itself", with("ladder 3;person 1 1 1 0").years(10, 1, 100, 0), 10);
            is("grip 3 is 2, and 1 by the step", with("ladder 3;person 1 1 3 0").years(10, 1, 100, 0), 0);
            LadderLand w = ruledBy("ladder 5;person 0 1 3 0", "climb 1 if hour<2 or hour=3");
            live(w, 2);
            // draws from 0: 0, 68; grip 1 stays 1, is 2 by the hour, and 1 by the step
            is("not below 1, so that rest makes 2", w.person(0, 2) * 10 + w.years(1, 2, 50, 0), 10);
            is("taken again, it slips", w.years(1, 2, 69, 0), 1);
            // draws from 0: 0, 68, 88, 17
            LadderLand x = with("ladder 3;rung 0 4 99;rung 1 4 99;person 1 1 2 0;person 1 1 2 0;person 1 1 2 0;person 1 1 2 0");
            int[][] due = {{0, 0}, {1, 1}, {17, 1}, {18, 2}, {68, 2}, {69, 3}, {88, 3}, {89, 4}, {100, 4}};
            for (int[] d : due) {
                is("four people, below " + d[0], x.years(1, 1, d[0], 1), d[1]);
            }
            LadderLand y = with("ladder 3;rung 0 4 99;rung 1 4 99;person 0 1 2 0;person 1 1 2 0;person 1 1 2 0;person 1 1 2 0");
            y.cut(0);
            y.mend(0);
            // who has fallen draws nothing: 0, 68, 88 for the others
            is("who has fallen draws nothing", y.years(1, 1, 69, 1) * 10 + y.years(1, 1, 68, 1), 21);
        });
        said(31, "x goes on", () -> {
            LadderLand x = with("ladder 3;person 1 1 2 0");
            int[][] due = {{1, 68, 1}, {2, 68, 1}, {2, 69, 2}, {3, 88, 2}, {3, 89, 3}, {4, 18, 2}, {4, 17, 1}};
            for (int[] d : due) {
                is(d[0] + " times below " + d[1], x.years(d[0], 1, d[1], 1), d[2]);
            }
        });
    }

    private static void years() {
        said(31, "YEARS m times (1 to 10; each from now on, as all is; x goes on) n HOURS (1 to 60)", () -> {
            LadderLand x = with("ladder 3;rung 0 1 60;person 0 1 9 0");
            is("once, not in 59 hours", x.years(1, 59, 0, 0), 0);
            is("once, in the 60th", x.years(1, 60, 0, 0), 1);
            is("ten times", x.years(10, 60, 0, 0), 10);
            is("nine times", x.years(9, 60, 0, 1), 9);
            live(x, 59);
            is("from now on, as all is", x.years(10, 1, 0, 1), 10);
            LadderLand y = with("ladder 3;rung 0 1 1;person 0 1 9 0");
            is("once, one hour", y.years(1, 1, 0, 0), 1);
            LadderLand z = with("ladder 9;rung 8 4 1;rung 7 4 1;rung 6 4 1" + times(";person 8 1 30 8", 4));
            is("four down, ten times", z.years(10, 1, 0, 0), 40);
            is("none falls", z.years(10, 60, 0, 1), 0);
        });
        said(31, "YEARS what 0: SLIPS, 1: who FALLS", () -> {
            LadderLand x = with("ladder 3;rung 1 1 1;person 1 1 9 1");
            is("a slip that is no fall", x.years(1, 1, 0, 0) * 10 + x.years(1, 1, 0, 1), 10);
            LadderLand y = with("ladder 3;rung 0 1 1;person 0 1 9 0");
            is("a fall is a slip, too", y.years(1, 1, 0, 0) * 10 + y.years(1, 1, 0, 1), 11);
        });
        said(31, "SLIPS; who FALLS, all together (nothing stays; x as it was)", () -> {
            LadderLand x = ruledBy("ladder 3;rung 0 4 4;rung 1 4 4" + times(";person 1 1 9 1", 4), "climb 0");
            is("slips, and falls an hour later", x.years(3, 2, 0, 0), 24);
            is("falls", x.years(3, 2, 0, 1), 12);
            is("not in the first", x.years(3, 1, 0, 0) * 100 + x.years(3, 1, 0, 1), 1200);
            LadderLand y = with("ladder 3;rung 0 4 1;person 0 1 9 0;person 1 1 9 1");
            y.hour();
            is("who has fallen already falls no more", y.years(10, 60, 50, 0) + y.years(10, 60, 50, 1), 0);
            leaves("nothing stays", Scenes::lived, v -> bit(v.years(10, 60, 50, 0) >= 0), 1);
            leaves("nor of the fullest", Scenes::full, v -> bit(v.years(7, 60, 99, 1) >= 0), 1);
        });
        said(31, "NONE without these, or a LADDER", () -> {
            leavesEach("m", Scenes::lived, numbers(0, 11, -1, MIN, MAX), (x, m) -> x.years(m, 1, 0, 0), NONE);
            leavesEach("n", Scenes::lived, numbers(0, 61, -1, MIN, MAX), (x, n) -> x.years(1, n, 0, 0), NONE);
            leavesEach("p", Scenes::lived, numbers(-1, 101, MIN, MAX), (x, p) -> x.years(1, 1, p, 0), NONE);
            leavesEach("what", Scenes::lived, numbers(-1, 2, MIN, MAX), (x, what) -> x.years(1, 1, 0, what), NONE);
            leavesEach("no ladder", Scenes::untold, numbers(1, 10), (x, m) -> x.years(m, 1, 0, 0), NONE);
            is("nobody", with("ladder 3").years(10, 60, 100, 0), 0);
        });
    }

    // ---- promise 32

    private static void counts() {
        said(32, "0: RUNGS, 1: PEOPLE, 2: who has not FALLEN, as bits, 3: BROKEN RUNGS, as bits, 4: RULES", () -> {
            LadderLand x = with("ladder 9" + times(";person 0 1 1 0", 2) + times(";person 8 1 1 0", 2), "climb 1");
            is("nine, four, fifteen, none, one", x.count(0) * 10000 + x.count(1) * 1000 + x.count(2) * 10 + x.count(3), 94150);
            is("a rule", x.count(4), 1);
            for (int r = 0; r < 9; r++) {
                x.cut(r);
                is("broken up to " + r, x.count(3), (2 << r) - 1);
                is("left", x.count(2), r < 8 ? 12 : 0);
            }
            is("people, all fallen", x.count(1), 4);
        });
        said(32, "5: the RULE IN FORCE (NONE), 6: HOUR, 7: SLIPS of all, 8: all that is WORN, 9: NOTES", () -> {
            LadderLand x = with("ladder 3;rung 0 4 81" + times(";person 0 20 9 0", 4), "climb 0");
            is("none", x.count(5), NONE);
            x.force(0);
            is("rule 0", x.count(5), 0);
            live(x, 2);
            is("hour", x.count(6), 2);
            is("slips, of who has fallen, too", x.count(7), 4);
            is("worn", x.count(8), 160);
            is("notes", x.count(9), 0);
        });
        said(32, "10: ACTS that can be UNDONE, 11: x, 12: bytes of the TAPE", () -> {
            int[] all = Sight.counts(Scenes.full());
            is("the most of each", all[10] * 1000 + all[12], 20400);
            is("x", all[11], MAX);
            is("six rules, the last in force, ten notes", all[4] * 1000 + all[5] * 100 + all[9], 6510);
        });
        said(32, "NONE for others", () -> {
            leavesEach("what", Scenes::full, numbers(13, 14, -1, -2, MIN, MAX), LadderLand::count, NONE);
            leavesEach("of a new object", Scenes::fresh, numbers(13, -1), LadderLand::count, NONE);
        });
    }

    // ---- promises 33 and 34

    private static void images() {
        said(33, "An IMAGE is made (also where nothing was told yet): HOUR", () -> {
            LadderLand x = new LadderLand();
            is("of nothing", x.image(0) + x.image(3), 0);
            LadderLand y = Scenes.full();
            is("hour", y.image(0), 24);
            is("is no act", y.count(10), 20);
            leavesAll(0);
            leavesAll(3);
        });
        said(33, "NONE for another k", () -> {
            leavesEach("k", Scenes::full, numbers(4, 5, -1, -2, MIN, MAX), LadderLand::image, NONE);
            leavesEach("k of a new object", Scenes::fresh, numbers(4, -1), LadderLand::image, NONE);
        });
        said(33, "IMAGES 0 to 3", () -> {
            LadderLand x = with("ladder 3;person 0 1 9 0");
            for (int k = 0; k < 4; k++) {
                is("image " + k, x.image(k), k);
                x.hour();
            }
            for (int k = 3; k >= 0; k--) {
                is("back to " + k, x.back(k), k);
                is("worn", x.count(8), k);
            }
            live(x, 5);
            is("made again", x.image(2), 5);
            x.hour();
            is("the new one", x.back(2), 5);
            is("the others stay", x.back(1) * 100 + x.back(3) * 10 + x.back(0), 130);
            is("and it", x.back(2), 5);
        });
    }

    private static void leavesAll(int k) {
        LadderLand x = Scenes.full();
        String seen = Sight.of(x);
        x.image(k);
        same("by an image all is as it was", Sight.of(x), seen);
    }

    private static void back() {
        said(34, "All is as in an IMAGE: HOUR", () -> {
            LadderLand x = new LadderLand();
            x.image(1);
            Bytes.put(x, "ladder 5;broken 1;rung 0 2 9;person 0 2 9 0");
            x.ladder();
            Bytes.put(x, "climb 1");
            x.rule();
            x.force(0);
            x.seed(8);
            x.note(0, 0, 1);
            x.hour();
            is("to nothing", x.back(1), 0);
            is("no ladder", x.count(0) + x.count(1) + x.count(3) + x.count(6) + x.count(8) + x.count(9) + x.count(11), 0);
            is("none in force", x.count(5), NONE);
            is("the rules stay", x.count(4), 1);
            is("no hour", x.hour(), NONE);
            is("a rule can be forced", x.force(0), NONE);
        });
        said(34, "all but the TAPE and the RULES, as it is (the RULE IN FORCE, too)", () -> {
            LadderLand x = Scenes.lived();
            x.image(3);
            x.end(0);
            String seen = Sight.brief(x);
            int force = x.force(1);
            Bytes.put(x, "climb 0");
            x.rule();
            x.seed(0);
            x.note(NONE, 0, 0);
            live(x, 3);
            x.cut(5);
            x.aim(0, 1);
            Bytes.put(x, "ladder 9;broken 8;person 0 1 1 0");
            x.ladder();
            x.hour();
            x.feed(1, 2, 3, 4, 5);
            is("hour", x.back(3), 2);
            same("people and rungs", Sight.brief(x), seen);
            is("the ladder", x.count(0) * 10 + x.count(1), 64);
            is("the rule in force", x.count(5), force);
            is("x", x.count(11), 77);
            is("notes", x.count(9), 2);
            is("the tape stays", x.count(12), 20);
            is("the rules stay", x.count(4), 3);
            is("room and strength", x.rung(2, 0) * 1000 + x.rung(2, 1), 1040);
        });
        said(34, "as it is (the RULE IN FORCE, too); gone back to, it is as it was", () -> {
            LadderLand x = with("ladder 4;person 1 1 9 1;person 2 1 9 2", "climb 1", "climb 0-1");
            x.note(1, 1, 1);
            x.note(2, 2, 1);
            x.image(0);
            is("by none", x.ruled(0) * 10 + x.ruled(1), 9);
            x.note(NONE, 0, 0);
            x.note(1, 2, 1);
            x.note(1, 3, 1);
            x.image(1);
            is("by rule 0", x.ruled(0) * 10 + x.ruled(1), 10);
            for (int i = 0; i < 3; i++) {
                x.back(0);
                is("the notes that there were", x.ruled(0) * 10 + x.ruled(1), 9);
                is("two", x.count(9), 2);
                x.back(1);
                is("and those", x.ruled(0) * 10 + x.ruled(1), 10);
                x.note(3, 0, 2);
                is("a third", x.count(9), 3);
            }
            int[][] others = {{0, 3, 1}, {2, 1, 1}, {2, 3, 0}};
            for (int[] other : others) {
                LadderLand y = with("ladder 4;person 1 1 9 3");
                y.note(2, 3, 1);
                y.image(2);
                y.note(NONE, 0, 0);
                y.note(other[0], other[1], other[2]);
                is("not so", y.ruled(0), 0);
                y.back(2);
                is("so again: hour, rung and how many", y.ruled(0), 1);
            }
        });
        said(34, "gone back to, it is as it was (these stay; nothing can be UNDONE then)", () -> {
            LadderLand x = Scenes.full();
            is("undone", x.undo(), 19);
            is("back", x.back(3), 18);
            is("nothing can", x.count(10), 0);
            is("nothing is", x.undo(), NONE);
            x.hour();
            is("an act", x.count(10), 1);
            is("undone", x.undo() * 100 + x.count(6), 18);
            is("the image is as it was", x.back(3), 18);
            x.cut(3);
            is("whatever is done", x.back(3) * 1000 + x.count(3), 18256);
            is("a row of acts from there", twentyActs(x), 20);
            is("and back again", x.back(0) * 10 + x.count(10), 0);
        });
        said(34, "NONE, and nothing happens, if it was never made, or without it", () -> {
            leavesEach("k", Scenes::full, numbers(4, 5, -1, -2, MIN, MAX), LadderLand::back, NONE);
            leavesEach("never made", Scenes::lived, numbers(1, 3, 4, -1), LadderLand::back, NONE);
            leavesEach("never made", Scenes::untold, numbers(0, 2, 3), LadderLand::back, NONE);
            leavesEach("never made", Scenes::fresh, numbers(0, 1, 2, 3), LadderLand::back, NONE);
        });
    }

    private static int twentyActs(LadderLand x) {
        live(x, 22);
        return x.count(10);
    }
}
