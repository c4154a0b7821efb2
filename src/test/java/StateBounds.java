/** Promises 6 to 8: the rule in force, and what people and rungs show, sentence by sentence. */
final class StateBounds extends Bounds {
    private StateBounds() {
    }

    static void all() {
        forcing();
        persons();
        rungs();
    }

    // ---- promise 6

    private static void forcing() {
        said(6, "A RULE is IN FORCE (NONE: none): which was", () -> {
            LadderLand x = Scenes.full();
            is("5 was", x.force(0), 5);
            is("0 was", x.force(5), 0);
            is("5 again", x.force(5), 5);
            is("then none", x.force(NONE), 5);
            is("none was", x.force(NONE), NONE);
            is("none in force", x.count(5), NONE);
            LadderLand y = with("ladder 3;person 1 1 9 0", "climb 1");
            is("none: by the want", y.ahead(0, 1, 0), 0);
            y.force(0);
            is("by the rule", y.ahead(0, 1, 0), 2);
            is("no act", y.count(10), 0);
        });
        said(6, "-2, and nothing happens, if there is none such", () -> {
            leavesEach("of six", Scenes::full, numbers(6, 7, -2, -3, MIN, MAX), LadderLand::force, -2);
            leavesEach("of two", Scenes::lived, numbers(2, 5, 6, -2, MIN, MAX), LadderLand::force, -2);
            leavesEach("of none", Scenes::told, numbers(0, 1, -2, MAX), LadderLand::force, -2);
        });
    }

    // ---- promise 7

    private static void persons() {
        said(7, "0: RUNG (NONE: FALLEN), 1: WEIGHT, 2: GRIP, 3: the RUNG they WANT, 4: how often they SLIPPED", () -> {
            LadderLand x = with("ladder 9;person 0 1 1 8;person 8 20 30 0");
            is("the least", x.person(0, 0) * 1000 + x.person(0, 1) * 100 + x.person(0, 2) * 10 + x.person(0, 3), 118);
            is("the most", x.person(1, 0) * 10000 + x.person(1, 1) * 100 + x.person(1, 2), 82030);
            is("no slip", x.person(0, 4), 0);
            x.cut(0);
            is("fallen", x.person(0, 0), NONE);
            is("all else of who has fallen", x.person(0, 1) * 1000 + x.person(0, 2) * 100 + x.person(0, 3) * 10 + x.person(0, 4), 1181);
        });
        said(7, "5, 6: the RUNG above, below theirs (NONE: none, or FALLEN)", () -> {
            LadderLand x = with("ladder 3;person 0 1 1 0;person 2 1 1 0;person 1 1 1 0");
            is("none above the highest", x.person(1, 5), NONE);
            is("none below the lowest", x.person(0, 6), NONE);
            is("next to it", x.person(0, 5) * 10 + x.person(1, 6), 11);
            is("between", x.person(2, 5) * 10 + x.person(2, 6), 20);
            x.cut(0);
            is("above who has fallen", x.person(0, 5), NONE);
            is("below who has fallen", x.person(0, 6), NONE);
            is("none below 1, since 0 is broken", x.person(2, 6), NONE);
            x.cut(2);
            is("nor above", x.person(2, 5), NONE);
        });
        said(7, "the next higher one, over one BROKEN RUNG at most; below: likewise lower; there may be none", () -> {
            LadderLand x = with("ladder 9;broken 1;broken 4;broken 5;broken 7;person 0 1 1 0;person 2 1 1 0;person 3 1 1 0;person 6 1 1 0");
            is("over one, up", x.person(0, 5), 2);
            is("over one, down", x.person(1, 6), 0);
            is("over none", x.person(1, 5) * 10 + x.person(2, 6), 32);
            is("two are too many, up", x.person(2, 5), NONE);
            is("two are too many, down", x.person(3, 6), NONE);
            is("over one to the highest", x.person(3, 5), 8);
            x.mend(5);
            is("one of them mended, up", x.person(2, 5), 5);
            is("one of them mended, down", x.person(3, 6), 5);
            x.cut(8);
            is("none beyond", x.person(3, 5), NONE);
            x.cut(0);
            is("none beyond the lowest", x.person(1, 6), NONE);
            x.mend(1);
            is("but the mended one", x.person(1, 6), 1);
        });
        said(7, "-2 without these", () -> {
            for (int what = 0; what < 7; what++) {
                int w = what;
                leavesEach("of four, what " + w, Scenes::lived, numbers(4, 5, -1, -2, MIN, MAX), (x, p) -> x.person(p, w), -2);
                leavesEach("of two, what " + w, Scenes::told, numbers(2, 3, -1), (x, p) -> x.person(p, w), -2);
            }
            leavesEach("of nobody", () -> with("ladder 3"), numbers(0, -1), (x, p) -> x.person(p, 0), -2);
            leavesEach("what", Scenes::lived, numbers(7, 8, -1, -2, MIN, MAX), (x, what) -> x.person(0, what), -2);
            leavesEach("of who has fallen", Scenes::lived, numbers(7, -1), (x, what) -> x.person(2, what), -2);
        });
        said(7, "Who has FALLEN is nowhere, and is no more", () -> {
            LadderLand x = with("ladder 4;rung 0 2 99;person 0 7 9 3;person 1 4 9 3");
            is("falls", x.cut(0), 1);
            is("on no rung", x.rung(0, 4) + x.rung(0, 5), 0);
            is("one is left", x.count(2), 2);
            is("two were told", x.count(1), 2);
            live(x, 2);
            is("wears and wills nothing", x.count(8) * 10 + x.person(0, 4), 81);
            is("tires no more", x.person(0, 2), 9);
            is("aims at nothing", x.aim(0, 1), NONE);
            x.mend(0);
            is("is not back on a mended rung", x.person(0, 0), NONE);
            is("does not step", x.step(0, true), NONE);
        });
    }

    // ---- promise 8

    private static void rungs() {
        said(8, "Of a RUNG what 0: ROOM, 1: STRENGTH, 2: WORN, 3: 1 if BROKEN, else 0, 4: who stands on it, as bits, 5: their WEIGHTS together",
            () -> {
                LadderLand x = with("ladder 9;rung 8 4 999;rung 0 1 1;broken 1" + times(";person 8 20 30 8", 4));
                is("the most room, and strength", x.rung(8, 0) * 1000 + x.rung(8, 1), 4999);
                is("the least", x.rung(0, 0) * 10 + x.rung(0, 1), 11);
                is("four as bits", x.rung(8, 4), 15);
                is("their weights", x.rung(8, 5), 80);
                is("not worn", x.rung(8, 2), 0);
                x.hour();
                is("worn", x.rung(8, 2), 80);
                is("broken", x.rung(1, 3) * 10 + x.rung(0, 3), 10);
                is("nobody", x.rung(0, 4) + x.rung(0, 5) + x.rung(1, 4), 0);
                x.step(3, false);
                is("the last one's bit", x.rung(7, 4) * 100 + x.rung(8, 4), 807);
            });
        said(8, "NONE without these", () -> {
            for (int what = 0; what < 6; what++) {
                int w = what;
                leavesEach("of nine, what " + w, Scenes::full, numbers(9, 10, -1, -2, MIN, MAX), (x, r) -> x.rung(r, w), NONE);
                leavesEach("of six, what " + w, Scenes::lived, numbers(6, 8, -1), (x, r) -> x.rung(r, w), NONE);
                leavesEach("of three, what " + w, () -> with("ladder 3"), numbers(3, -1), (x, r) -> x.rung(r, w), NONE);
            }
            leavesEach("what", Scenes::full, numbers(6, 7, -1, -2, MIN, MAX), (x, what) -> x.rung(0, what), NONE);
        });
    }
}
