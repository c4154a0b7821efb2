import java.util.function.ToIntFunction;

/** Promises 10 to 15: acts by hand and their undoing, sentence by sentence. */
final class ActBounds extends Bounds {
    private ActBounds() {
    }

    static void all() {
        stepping();
        passing();
        mending();
        cutting();
        aiming();
        undoing();
        undoingEach();
    }

    // ---- promise 10

    private static void stepping() {
        said(10, "STEP (up, or down): the RUNG", () -> {
            LadderLand x = with("ladder 9;person 7 1 1 0;person 1 1 1 0");
            is("to the highest", x.step(0, true), 8);
            is("to the lowest", x.step(1, false), 0);
            is("they are there", stands(x, 2), 80);
            is("back", x.step(0, false) * 10 + x.step(1, true), 71);
            is("an act each", x.count(10), 4);
        });
        said(10, "STEP (a PERSON up or down, where there is a RUNG with ROOM; GRIP as it is)", () -> {
            for (int room = 1; room <= 4; room++) {
                String ahead = "ladder 3;rung 1 " + room + " 9" + times(";person 1 1 1 0", room - 1);
                String up = ahead + ";person 0 1 1 0";
                String down = ahead + ";person 2 1 1 0";
                is("up, one fewer than " + room, with(up).step(room - 1, true), 1);
                is("down, one fewer than " + room, with(down).step(room - 1, false), 1);
                if (room < 4) {
                    int last = room;
                    String full = "ladder 3;rung 1 " + room + " 9" + times(";person 1 1 1 0", room);
                    leaves("up, as many as " + room, () -> with(full + ";person 0 1 1 0"), x -> x.step(last, true), NONE);
                    leaves("down, as many as " + room, () -> with(full + ";person 2 1 1 0"), x -> x.step(last, false), NONE);
                }
            }
            LadderLand x = with("ladder 3;rung 1 1 1;person 0 20 1 0");
            is("with grip 1", x.step(0, true), 1);
            is("grip as it is, nothing worn", x.person(0, 2) * 10 + x.count(8), 10);
        });
        said(10, "over one BROKEN RUNG at most", () -> {
            String one = "ladder 5;broken 1;broken 3;person 2 1 1 0";
            is("one, up", with(one).step(0, true), 4);
            is("one, down", with(one).step(0, false), 0);
            leaves("two, up", () -> with("ladder 5;broken 1;broken 2;person 0 1 1 0"), x -> x.step(0, true), NONE);
            leaves("two, down", () -> with("ladder 5;broken 1;broken 2;person 3 1 1 0"), x -> x.step(0, false), NONE);
        });
        said(10, "NONE, and nothing happens, without these", () -> {
            for (boolean up : new boolean[] {true, false}) {
                leavesEach("nobody such", Scenes::lived, numbers(4, 5, -1, -2, MIN, MAX), (x, p) -> x.step(p, up), NONE);
                leavesEach("nobody such", Scenes::told, numbers(2, 3, -1), (x, p) -> x.step(p, up), NONE);
                leaves("who has fallen", Scenes::lived, x -> x.step(fallen(x), up), NONE);
            }
            leaves("no rung above the highest", () -> with("ladder 3;person 2 1 1 0"), x -> x.step(0, true), NONE);
            leaves("no rung below the lowest", () -> with("ladder 3;person 0 1 1 0"), x -> x.step(0, false), NONE);
            leaves("none beyond a broken highest", () -> with("ladder 3;broken 2;person 1 1 1 0"), x -> x.step(0, true), NONE);
            leaves("none beyond a broken lowest", () -> with("ladder 3;broken 0;person 1 1 1 0"), x -> x.step(0, false), NONE);
        });
    }

    private static int fallen(LadderLand x) {
        for (int p = 0; p < x.count(1); p++) {
            if (x.person(p, 0) == NONE) {
                return p;
            }
        }
        is("somebody has fallen in the scene", 0, 1);
        return 0;
    }

    // ---- promise 11

    private static void passing() {
        said(11, "PASS: true", () -> {
            LadderLand x = with("ladder 3;rung 0 1 9;rung 1 1 9;person 0 1 1 2;person 1 1 1 0");
            is("the lower one first", x.pass(0, 1), true);
            is("both are there", stands(x, 2), 10);
            is("the higher one first", x.pass(0, 1), true);
            is("and back", stands(x, 2), 1);
            is("grip as it is", x.person(0, 2) * 10 + x.person(1, 2), 11);
            is("acts", x.count(10), 2);
        });
        said(11, "PASS (two PEOPLE, of which one is on the RUNG above the other's, change places; GRIP as it is)", () -> {
            LadderLand x = with("ladder 5;broken 1;person 0 1 3 0;person 2 1 3 0;person 3 1 3 0");
            is("over a broken one", x.pass(1, 0), true);
            is("places", stands(x, 3), 203);
            is("though there is room", x.pass(2, 0), true);
            is("whatever they want", stands(x, 3), 302);
            is("grip", x.person(0, 2) + x.person(1, 2) + x.person(2, 2), 9);
            LadderLand y = with("ladder 4;broken 0;person 3 1 1 1;person 2 1 1 1");
            is("to the highest", y.pass(0, 1), true);
            is("places", stands(y, 2), 23);
        });
        said(11, "false, and nothing happens, without these", () -> {
            int[] wrong = {4, 5, -1, -2, MIN, MAX};
            leavesEach("no such one", Scenes::lived, wrong, (x, n) -> bit(x.pass(n, 0)), 0);
            leavesEach("no such other one", Scenes::lived, wrong, (x, n) -> bit(x.pass(0, n)), 0);
            leavesEach("neither", Scenes::lived, wrong, (x, n) -> bit(x.pass(n, n)), 0);
            leavesEach("with oneself", Scenes::full, numbers(0, 1, 2, 3), (x, n) -> bit(x.pass(n, n)), 0);
            leavesEach("who has fallen", Scenes::lived, numbers(0, 1, 2, 3), (x, n) -> bit(x.pass(fallen(x), n)), 0);
            leavesEach("who has fallen, second", Scenes::lived, numbers(0, 1, 2, 3), (x, n) -> bit(x.pass(n, fallen(x))), 0);
            leaves("on one rung", () -> with("ladder 3;person 1 1 1 0;person 1 1 1 0"), x -> bit(x.pass(0, 1)), 0);
            leaves("two apart", () -> with("ladder 3;person 0 1 1 0;person 2 1 1 0"), x -> bit(x.pass(0, 1)), 0);
            leaves("two apart, the higher one first", () -> with("ladder 3;person 0 1 1 0;person 2 1 1 0"), x -> bit(x.pass(1, 0)), 0);
            leaves("two broken ones between", () -> with("ladder 4;broken 1;broken 2;person 0 1 1 0;person 3 1 1 0"),
                x -> bit(x.pass(0, 1)), 0);
        });
    }

    // ---- promise 12

    private static void mending() {
        said(12, "MEND (a RUNG is WORN half, downwards, and not BROKEN any more)", () -> {
            for (int worn = 1; worn <= 20; worn++) {
                LadderLand x = with("ladder 3;rung 0 1 20;person 0 " + worn + " 9 0");
                x.hour();
                is("broken by 20 of 20", x.rung(0, 3), worn < 20 ? 0 : 1);
                is("half of " + worn, x.mend(0), worn / 2);
                is("as it shows", x.rung(0, 2) * 10 + x.rung(0, 3), worn / 2 * 10);
                is("strength and room stay", x.rung(0, 1) * 10 + x.rung(0, 0), 201);
            }
        });
        said(12, "MEND: how much it is WORN then", () -> {
            LadderLand x = with("ladder 9;broken 0;broken 8;person 4 1 9 4");
            is("broken, not worn: the lowest", x.mend(0), 0);
            is("broken, not worn: the highest", x.mend(8), 0);
            is("whole", x.count(3), 0);
            x.hour();
            is("1 is 0 then", x.mend(4), 0);
            is("an act each", x.count(10), 4);
        });
        said(12, "NONE, and nothing happens, without that RUNG, or if it is WORN 0 and not BROKEN", () -> {
            leavesEach("no such rung", Scenes::full, numbers(9, 10, -1, -2, MIN, MAX), LadderLand::mend, NONE);
            leavesEach("no such rung", Scenes::lived, numbers(6, 8, -1), LadderLand::mend, NONE);
            leavesEach("neither worn nor broken", Scenes::told, numbers(0, 1, 2, 4), LadderLand::mend, NONE);
            leaves("mended to 0", () -> {
                LadderLand x = with("ladder 3;broken 1;person 0 1 9 0");
                x.hour();
                x.mend(0);
                return x;
            }, x -> x.mend(0), NONE);
        });
    }

    // ---- promise 13

    private static void cutting() {
        said(13, "CUT: how many SLIPPED", () -> {
            for (int on = 0; on <= 4; on++) {
                LadderLand x = with("ladder 3;rung 2 4 9;rung 1 1 9" + times(";person 2 1 1 2", on));
                is(on + " on it", x.cut(2), on);
                is("slips", x.count(7), on);
                is("they are on the next one, without room", x.rung(1, 4), (1 << on) - 1);
                is("broken", x.count(3), 4);
                is("grip as it is, no hour", (on > 0 ? x.person(0, 2) : 1) * 10 + x.count(6), 10);
                is("once more", x.cut(1), on);
                is("to the lowest", x.rung(0, 4), (1 << on) - 1);
                is("and off it", x.cut(0), on);
                is("all have fallen", x.count(2), 0);
                is("each slipped three times", x.count(7), 3 * on);
            }
        });
        said(13, "CUT (a RUNG that is not BROKEN is: who is on it SLIPS, by numbers)", () -> {
            LadderLand x = with("ladder 9;broken 3;broken 4;broken 5;person 6 1 1 0;person 2 1 1 0");
            is("over three broken ones", x.cut(6) * 100 + stands(x, 2), 122);
            is("worn stays", x.rung(6, 2), 0);
            LadderLand y = with("ladder 3;rung 0 1 50;person 0 7 9 0");
            y.hour();
            y.cut(0);
            is("worn as it was", y.rung(0, 2), 7);
        });
        said(13, "NONE, and nothing happens, without these", () -> {
            leavesEach("no such rung", Scenes::full, numbers(9, 10, -1, -2, MIN, MAX), LadderLand::cut, NONE);
            leavesEach("no such rung", Scenes::lived, numbers(6, 8, -1), LadderLand::cut, NONE);
            leaves("broken by the text", Scenes::told, x -> x.cut(3), NONE);
            leaves("broken by a cut", Scenes::lived, x -> x.cut(0), NONE);
            leaves("broken by an hour", () -> {
                LadderLand x = with("ladder 3;rung 1 1 1;person 1 1 9 1");
                x.hour();
                return x;
            }, x -> x.cut(1), NONE);
        });
    }

    // ---- promise 14

    private static void aiming() {
        said(14, "AIM: the RUNG it was", () -> {
            LadderLand x = with("ladder 9;broken 4;person 8 1 1 0");
            is("from the lowest to the highest", x.aim(0, 8), 0);
            is("where they stand", x.person(0, 3), 8);
            is("to a broken one", x.aim(0, 4), 8);
            is("to the lowest", x.aim(0, 0), 4);
            is("an act each", x.count(10), 3);
        });
        said(14, "NONE, and nothing happens, without these (a PERSON that has not FALLEN, another RUNG)", () -> {
            leavesEach("nobody such", Scenes::lived, numbers(4, 5, -1, -2, MIN, MAX), (x, p) -> x.aim(p, 1), NONE);
            leavesEach("nobody such", Scenes::told, numbers(2, -1), (x, p) -> x.aim(p, 1), NONE);
            leavesEach("no such rung", Scenes::lived, numbers(6, 8, -1, -2, MIN, MAX), (x, r) -> x.aim(0, r), NONE);
            leavesEach("no such rung", Scenes::full, numbers(9, 10, -1), (x, r) -> x.aim(0, r), NONE);
            leavesEach("the same one", Scenes::full, numbers(0, 1, 2, 3), (x, p) -> x.aim(p, x.person(p, 3)), NONE);
            leavesEach("who has fallen", Scenes::lived, numbers(0, 1, 2, 3, 4, 5), (x, r) -> x.aim(fallen(x), r), NONE);
        });
    }

    // ---- promise 15

    private static void undoing() {
        said(15, "The last ACT is UNDONE: how many more can be", () -> {
            LadderLand x = Scenes.full();
            is("twenty", x.count(10), 20);
            for (int left = 19; left >= 0; left--) {
                is("undone", x.undo(), left);
                is("as counted", x.count(10), left);
                is("hour", x.count(6), left + 4);
            }
            is("none can", x.undo(), NONE);
        });
        said(15, "The last 20 can be UNDONE, the last first", () -> {
            for (int acts = 18; acts <= 22; acts++) {
                LadderLand x = with("ladder 3;rung 0 2 999;person 0 1 9 0");
                live(x, acts);
                is(acts + " acts", x.count(10), Math.min(20, acts));
                for (int i = Math.min(20, acts); i > 0; i--) {
                    is("hour", x.count(6), Math.max(0, acts - 20) + i);
                    x.undo();
                }
                is("the hours that stay", x.count(6), Math.max(0, acts - 20));
                is("no more", x.undo(), NONE);
                is("nor then", x.count(10) * 100 + x.count(6), Math.max(0, acts - 20));
            }
            LadderLand x = with("ladder 3;rung 0 2 999;person 0 1 9 0");
            for (int i = 0; i < 50; i++) {
                live(x, 3);
                x.undo();
            }
            is("forwards and back", x.count(6) * 100 + x.count(10), 10019);
            for (int i = 18; i >= 0; i--) {
                is("the last of these", x.undo(), i);
                is("each by itself", x.count(6), 81 + i);
            }
        });
        said(15, "NONE, and nothing happens: none can", () -> {
            leaves("a new object", Scenes::fresh, LadderLand::undo, NONE);
            leaves("a ladder", Scenes::told, LadderLand::undo, NONE);
            leaves("after an image", () -> {
                LadderLand x = Scenes.full();
                x.back(2);
                return x;
            }, LadderLand::undo, NONE);
            leaves("after a new ladder", () -> {
                LadderLand x = Scenes.lived();
                x.ladder();
                return x;
            }, LadderLand::undo, NONE);
            leaves("all undone", () -> {
                LadderLand x = Scenes.lived();
                while (x.undo() != NONE) {
                    x.count(0);
                }
                return x;
            }, LadderLand::undo, NONE);
        });
    }

    private static void undoingEach() {
        said(15, "ACTS: an HOUR; STEP", () -> {
            undone("hour", LadderLand::hour);
            undone("step", x -> x.step(3, false));
            undone("pass", x -> bit(x.pass(0, neighbour(x))));
            undone("mend", x -> x.mend(4));
            undone("mend what is worn", x -> x.mend(1));
            undone("cut", x -> x.cut(3));
            undone("cut under somebody", x -> x.cut(x.person(0, 0)));
            undone("aim", x -> x.aim(3, 0));
        });
        said(15, "the last first", () -> {
            LadderLand x = Scenes.lived();
            String[] seen = new String[6];
            for (int i = 0; i < 6; i++) {
                seen[i] = Sight.brief(x);
                is("an act", act(x, i) == NONE, false);
            }
            for (int i = 5; i >= 0; i--) {
                x.undo();
                same("undone " + i, Sight.brief(x), seen[i]);
            }
        });
        said(15, "nothing happens", () -> {
            LadderLand x = Scenes.full();
            x.force(NONE);
            x.seed(4);
            x.note(NONE, 0, 0);
            x.image(3);
            x.end(0);
            Bytes.put(x, "climb");
            x.rule();
            Bytes.put(x, "ladder");
            x.ladder();
            is("what is no act is not undone", x.undo(), 19);
            is("nor by that", x.count(5) * 1000 + x.count(11) * 100 + x.count(9) * 10 + x.count(12), -600);
        });
    }

    private static int act(LadderLand x, int i) {
        switch (i) {
            case 0: return x.hour();
            case 1: return x.aim(3, 1);
            case 2: return x.cut(3);
            case 3: return x.mend(3);
            case 4: return x.step(3, false);
            default: return x.cut(x.person(3, 0));
        }
    }

    private static int neighbour(LadderLand x) {
        for (int p = 1; p < 4; p++) {
            int r = x.person(p, 0);
            if (r != NONE && (r == x.person(0, 5) || r == x.person(0, 6))) {
                return p;
            }
        }
        is("somebody is beside person 0 in the scene", 0, 1);
        return 0;
    }

    /** One act more and undone: all is as it was. */
    private static void undone(String what, ToIntFunction<LadderLand> act) {
        LadderLand x = Scenes.lived();
        String ahead = Sight.of(x);
        int acts = x.count(10);
        is(what + " is done", act.applyAsInt(x) == NONE || act.applyAsInt(x) == -2, false);
        while (x.count(10) > acts) {
            x.undo();
        }
        same(what, Sight.of(x), ahead);
    }
}
