/** Promises 18 to 20 and 22 to 24: rows of moves, the capital, the invader, sentence by sentence. */
final class WayBounds extends Bounds {
    private WayBounds() {
    }

    static void all() {
        sets();
        moves();
        rows();
        order();
        squeeze();
        capital();
        ballot();
        hold();
        holdingOut();
    }

    // ---- promises 18 to 20

    private static void sets() {
        said(18, "MOVES for a set; -2: they can't (who has FALLEN can't); NONE without these, or a LADDER", () -> {
            for (int people = 0; people <= 4; people++) {
                String text = "ladder 3;rung 0 4 1" + times(";person 0 1 1 0", people);
                is("nobody of " + people, with(text).moves(0), 0);
                is("all of " + people, with(text).moves((1 << people) - 1), 0);
                leavesEach("one too many of " + people, () -> with(text), numbers(1 << people, 16, -1, MIN, MAX), LadderLand::moves, NONE);
            }
            leavesEach("no ladder", Scenes::untold, numbers(0, 1, 15, -1), LadderLand::moves, NONE);
        });
        said(19, "-3 without these (k below 0, too), or a LADDER", () -> {
            for (int people = 0; people <= 4; people++) {
                String text = "ladder 3;rung 0 4 1" + times(";person 0 1 1 1", people);
                leavesEach("one too many of " + people, () -> with(text), numbers(1 << people, 16, -1, MIN, MAX), (x, n) -> x.move(n, 0, 0), -3);
            }
            leavesEach("k", Scenes::told, numbers(-1, -2, MIN), (x, k) -> x.move(1, k, 0), -3);
            leavesEach("k of nobody", Scenes::told, numbers(-1, MIN), (x, k) -> x.move(0, k, 0), -3);
            leavesEach("what", Scenes::told, numbers(3, 4, -1, MIN, MAX), (x, what) -> x.move(1, 0, what), -3);
            leavesEach("what, beyond the row", Scenes::told, numbers(3, -1), (x, what) -> x.move(1, 99, what), -3);
            leavesEach("no ladder", Scenes::untold, numbers(0, 1, 15), (x, n) -> x.move(n, 0, 0), -3);
        });
        said(20, "NONE without these, or a LADDER", () -> {
            for (int people = 0; people <= 4; people++) {
                String text = "ladder 3;rung 0 4 1" + times(";person 0 1 1 0", people);
                is("nobody of " + people, with(text).squeeze(0), 0);
                is("all of " + people, with(text).squeeze((1 << people) - 1), 0);
                leavesEach("one too many of " + people, () -> with(text), numbers(1 << people, 16, -1, MIN, MAX), LadderLand::squeeze, NONE);
            }
            leavesEach("no ladder", Scenes::untold, numbers(0, 1, 15, -1), LadderLand::squeeze, NONE);
        });
    }

    private static void moves() {
        said(18, "-2: they can't (who has FALLEN can't)", () -> {
            LadderLand x = with("ladder 4;broken 2;person 0 1 1 2;person 0 1 1 1");
            is("to a broken rung", x.moves(1) * 10 + x.moves(3), -22);
            is("the other one can", x.moves(2), 1);
            LadderLand y = with("ladder 5;broken 1;broken 2;person 0 1 1 4;person 0 1 1 0");
            is("over two broken ones", y.moves(1) * 10 + y.moves(3), -22);
            LadderLand z = with("ladder 4;rung 1 1 9;person 0 1 1 1;person 2 1 1 1;person 2 1 1 2");
            is("two to a rung of room 1", z.moves(3), -2);
            is("each alone", z.moves(1) * 10 + z.moves(2), 11);
            is("with who need not go", z.moves(5), 1);
            LadderLand v = with("ladder 3;person 1 1 1 1;person 2 1 1 0;person 0 1 1 0");
            v.cut(0);
            is("has fallen", v.moves(4), -2);
            is("one of them", v.moves(5), -2);
            is("the others can", v.moves(1), 0);
            is("to a broken one they can't", v.moves(2), -2);
            LadderLand w = with("ladder 3;rung 0 1 1;person 0 1 1 0");
            w.hour();
            is("who has fallen from where they want to be", w.moves(1), -2);
            is("nobody of them", w.moves(0), 0);
            LadderLand u = with("ladder 3;person 0 1 1 1;person 1 1 1 1");
            is("not fallen yet", u.moves(1) * 10 + u.squeeze(1), 10);
            u.cut(0);
            is("fallen now", u.moves(1) * 10 + u.squeeze(1), -22);
            is("and no row", u.move(1, 0, 0), -2);
            is("the other one", u.moves(2) * 10 + u.squeeze(2), 0);
            is("and then not the fallen", u.moves(3) * 10 + u.squeeze(3), -22);
            LadderLand s = with("ladder 3;rung 0 1 9;person 1 1 1 0;person 0 1 1 0");
            s.cut(0);
            s.mend(0);
            is("the fallen take no room", s.moves(1) * 10 + s.squeeze(1), 10);
            is("and none passes them", told(s, 1, 0), 19);
            LadderLand r = with("ladder 3;rung 0 1 9;person 1 1 1 0;person 0 1 1 0;person 2 1 1 0");
            r.cut(0);
            r.mend(0);
            r.step(2, false);
            r.step(2, false);
            is("but who stands there now", told(r, 1, 0), 22);
            is("who can make way as well", r.squeeze(1), 0);
        });
        said(18, "the fewest STEPS and PASSES, as by ACTS (nothing wears, nobody tires), by which all of these are on the RUNGS they WANT, together, at the end",
            () -> {
                is("there already", with("ladder 3;person 1 1 1 1").moves(1), 0);
                is("the whole ladder, with grip 1 on strength 1", with("ladder 9;rung 4 1 1;rung 5 1 1;person 0 20 1 8").moves(1), 8);
                is("and down", with("ladder 9;person 8 1 1 0").moves(1), 8);
                is("over broken ones", with("ladder 9;broken 1;broken 3;broken 5;broken 7;person 0 1 1 8").moves(1), 4);
                is("four the whole ladder", with("ladder 9;rung 0 4 1;rung 8 4 1" + times(";person 0 1 1 8", 4)).moves(15), 32);
                is("a pass moves both", with("ladder 3;rung 0 1 9;rung 1 1 9;person 0 1 1 1;person 1 1 1 0").moves(3), 1);
                is("three of these, one who makes way", with("ladder 3;rung 0 1 9;rung 1 1 9;rung 2 1 9;person 0 1 1 2;person 1 1 1 1;person 2 1 1 0")
                    .moves(7), 3);
                is("one goes off and comes back", with("ladder 3;rung 1 1 9;person 1 1 1 1;person 0 1 1 2").moves(3), 3);
                is("no matter where the others end", with("ladder 3;rung 1 1 9;person 1 1 1 1;person 0 1 1 2").moves(2), 2);
            });
    }

    /** Person, kind and other one of a move as one number, 9 for none. */
    private static int told(LadderLand x, int people, int k) {
        int other = x.move(people, k, 2);
        return x.move(people, k, 0) * 100 + x.move(people, k, 1) * 10 + (other == NONE ? 9 : other);
    }

    private static void rows() {
        said(19, "The k-th move (0 and on) of the first row of MOVES what 0: the PERSON, 1: 0 up, 1 down, 2 a PASS, 2: the other one (NONE: no PASS)", () -> {
            LadderLand x = with("ladder 9;person 0 1 1 8;person 8 1 1 0;person 3 1 1 3");
            for (int k = 0; k < 8; k++) {
                is("up " + k, told(x, 1, k), 9);
                is("down " + k + ", the last by a pass with person 0, who stands there", told(x, 2, k), k < 7 ? 119 : 21);
            }
            LadderLand y = with("ladder 4;rung 0 1 1;rung 1 1 1;person 2 1 1 2;person 0 1 1 1;person 3 1 1 3;person 1 1 1 0");
            is("a pass", told(y, 10, 0), 123);
        });
        said(19, "-2: so many there are not", () -> {
            LadderLand x = with("ladder 9;person 0 1 1 8;person 8 1 1 8");
            for (int what = 0; what < 3; what++) {
                int w = what;
                is("the last", x.move(1, 7, what), what == 2 ? NONE : 0);
                leavesEach("beyond it", () -> with("ladder 9;person 0 1 1 8;person 8 1 1 8"), numbers(8, 9, MAX), (y, k) -> y.move(1, k, w), -2);
                is("none at all", x.move(2, 0, what), -2);
                is("of nobody", x.move(0, 0, what), -2);
                is("who can't", with("ladder 3;broken 2;person 0 1 1 2").move(1, 0, what), -2);
            }
            LadderLand z = with("ladder 3;person 0 1 1 1");
            z.cut(0);
            is("who has fallen", z.move(1, 0, 0), -2);
        });
    }

    private static void order() {
        said(19, "the first such row (by the PERSON, the lesser one of a PASS; then up, down, then PASSES by the other one)", () -> {
            LadderLand x = with("ladder 5;rung 2 4 9;person 1 1 1 2;person 3 1 1 2;person 1 1 1 2");
            is("by the person", told(x, 7, 0) * 1000000 + told(x, 7, 1) * 1000 + told(x, 7, 2), 9119209);
            LadderLand y = with("ladder 3;rung 2 2 9;rung 0 1 9;person 2 1 1 2;person 2 1 1 1;person 1 1 1 2");
            is("the lesser one of a pass", told(y, 6, 0), 122);
            LadderLand z = with("ladder 3;rung 1 1 9;person 1 1 1 1;person 0 1 1 2");
            // up, up, pass; or pass, up, up: three moves each
            is("up ahead of a pass", told(z, 3, 0) * 1000000 + told(z, 3, 1) * 1000 + told(z, 3, 2), 9109021);
            LadderLand v = with("ladder 3;rung 1 1 9;person 1 1 1 1;person 2 1 1 0");
            is("down ahead of a pass", told(v, 3, 0) * 1000000 + told(v, 3, 1) * 1000 + told(v, 3, 2), 19119021);
            LadderLand w = with("ladder 3;rung 2 2 9;person 1 1 1 2;person 2 1 1 0;person 2 1 1 0");
            is("a pass by the other one", told(w, 1, 0), 21);
            is("in its place", w.moves(1), 1);
        });
    }

    private static void squeeze() {
        said(20, "SQUEEZE for a set: the fewest PASSES in any such row, however long", () -> {
            String line = "ladder 5;rung 0 1 9;rung 1 1 9;rung 2 1 9;rung 3 1 9;rung 4 1 9";
            is("four have to turn", with(line + ";person 0 1 1 3;person 1 1 1 2;person 2 1 1 1;person 3 1 1 0").squeeze(15), 6);
            is("three of them", with(line + ";person 0 1 1 3;person 1 1 1 2;person 2 1 1 1").squeeze(7), 3);
            is("two of them", with(line + ";person 0 1 1 3;person 1 1 1 0").squeeze(3), 1);
            is("none where there is room to go round", with(line + ";rung 4 2 9;person 0 1 1 1;person 1 1 1 0").squeeze(3), 0);
            is("though a pass is short", with(line + ";rung 4 2 9;person 0 1 1 1;person 1 1 1 0").moves(3), 1);
            is("no other one has to make way", with(line + ";person 0 1 1 4;person 4 1 1 0").squeeze(1), 1);
            is("up to the end and back", with("ladder 9;rung 8 2 9;rung 0 1 9;rung 1 1 9;rung 2 1 9;rung 3 1 9;rung 4 1 9;rung 5 1 9;rung 6 1 9"
                + ";rung 7 1 9;person 0 1 1 1;person 1 1 1 0").squeeze(3), 0);
        });
        said(20, "-2: they can't", () -> {
            is("to a broken rung", with("ladder 3;broken 2;person 0 1 1 2").squeeze(1), -2);
            is("over two broken ones", with("ladder 4;broken 1;broken 2;person 0 1 1 3").squeeze(1), -2);
            is("two to a rung of room 1", with("ladder 3;rung 1 1 9;person 0 1 1 1;person 2 1 1 1").squeeze(3), -2);
            LadderLand x = with("ladder 3;person 0 1 1 0;person 1 1 1 1");
            x.cut(0);
            is("has fallen", x.squeeze(1), -2);
            is("one of them", x.squeeze(3), -2);
            is("the other one can", x.squeeze(2), 0);
        });
    }

    // ---- promises 22 and 23

    private static void capital() {
        said(22, "CAPITAL; NONE without a LADDER, or if nobody stands", () -> {
            is("no ladder", new LadderLand().capital(), NONE);
            is("no people", with("ladder 3").capital(), NONE);
            LadderLand x = with("ladder 3;person 0 1 1 0");
            is("the lowest", x.capital(), 0);
            x.cut(0);
            is("all have fallen", x.capital(), NONE);
            is("the highest", with("ladder 9;person 8 1 1 0").capital(), 8);
        });
        said(22, "the RUNG on which most stand, of several the least", () -> {
            is("one each", with("ladder 5;person 4 1 1 0;person 2 1 1 0;person 3 1 1 0").capital(), 2);
            is("two", with("ladder 5;person 4 1 1 0;person 2 1 1 0;person 4 1 1 0").capital(), 4);
            is("two each", with("ladder 5;person 4 1 1 0;person 2 1 1 0;person 4 1 1 0;person 2 1 1 0").capital(), 2);
            is("not by weight", with("ladder 5;person 4 20 1 0;person 2 1 1 0;person 2 1 1 0").capital(), 2);
        });
    }

    private static void ballot() {
        said(23, "BALLOT; NONE without a LADDER", () -> {
            is("no ladder", new LadderLand().ballot(), NONE);
            is("no people", with("ladder 3").ballot(), 0);
            LadderLand x = with("ladder 3;person 0 1 1 0");
            x.cut(0);
            is("all have fallen", x.ballot(), 0);
        });
        said(23, "RUNGS that could be it by one STEP of one PERSON, or none, as bits", () -> {
            is("or none: nobody can step", with("ladder 5;broken 1;broken 3;broken 4;broken 0;person 2 1 1 0").ballot(), 4);
            is("one, in the middle", with("ladder 5;person 2 1 1 0").ballot(), 14);
            is("one, on the highest of nine", with("ladder 9;person 8 1 1 0").ballot(), 256 + 128);
            is("over a broken one", with("ladder 5;broken 3;person 2 1 1 0").ballot(), 2 + 4 + 16);
            is("two together stay", with("ladder 5;person 2 1 1 0;person 2 1 1 0").ballot(), 4 + 2);
            // one each, so 0; 0 up: 1; 2 down: two on 5; 3 up: two on 6; all else 0 again
            is("by the last person alone", with("ladder 9;person 0 1 1 0;person 3 1 1 0;person 6 1 1 0;person 5 1 1 0").ballot(), 99);
            is("a full one is none", with("ladder 3;rung 1 1 9;person 0 1 1 0;person 1 1 1 0").ballot(), 1);
            is("one step, not a pass", with("ladder 3;rung 0 1 9;rung 1 1 9;rung 2 1 9;person 0 1 1 0;person 1 1 1 0;person 2 1 1 0").ballot(), 1);
        });
    }

    // ---- promise 24

    private static void hold() {
        said(24, "HOLD what 0: how high, 1: the first STEP. -2 without these, or a LADDER", () -> {
            leavesEach("turns", Scenes::lived, numbers(0, 5, 6, -1, MIN, MAX), (x, n) -> x.hold(n, 0), -2);
            leavesEach("turns", Scenes::told, numbers(0, 5, -1), (x, n) -> x.hold(n, 1), -2);
            leavesEach("what", Scenes::lived, numbers(2, 3, -1, -2, MIN, MAX), (x, what) -> x.hold(1, what), -2);
            leavesEach("no ladder", Scenes::untold, numbers(0, 1, 4, 5), (x, n) -> x.hold(n, 0), -2);
        });
        said(24, "HOLD for n turns (1 to 4): an INVADER, below RUNG 0 at first, climbs one RUNG (the next higher number, BROKEN or not) each turn", () -> {
            for (int n = 1; n <= 4; n++) {
                is(n + " turns", with("ladder 9").hold(n, 0), n - 1);
                is("all broken", with("ladder 4;broken 0;broken 1;broken 2;broken 3").hold(n, 0), n - 1);
                is("no first step", with("ladder 9").hold(n, 1), NONE);
                is("the highest", with("ladder 3").hold(n, 0), Math.min(2, n - 1));
                is("far from all", with("ladder 9;person 8 1 1 8").hold(n, 0) * 10 + with("ladder 9;person 8 1 1 8").hold(n, 1), n * 10 - 11);
            }
            LadderLand x = with("ladder 3;rung 0 1 1;person 0 1 9 0");
            x.hour();
            is("who has fallen holds nothing", x.hold(1, 0) * 10 + x.hold(1, 1), NONE);
        });
        said(24, "if fewer PEOPLE stand there than its ROOM", () -> {
            for (int room = 1; room <= 4; room++) {
                String ahead = "ladder 3;rung 0 " + room + " 9;rung 1 1 9;rung 2 1 9";
                LadderLand x = with(ahead + times(";person 0 1 1 0", room));
                is("as many as " + room, x.hold(4, 0) * 10 + x.hold(4, 1), -11);
                if (room < 4) {
                    LadderLand y = with(ahead + times(";person 0 1 1 0", room) + ";rung 0 " + (room + 1) + " 9");
                    is("one fewer than " + (room + 1), y.hold(1, 0) * 10 + y.hold(1, 1), NONE);
                }
            }
        });
        said(24, "how high it comes at least (NONE: not on the ladder), if they do their best", () -> {
            is("never on it", with("ladder 9;rung 0 1 9;person 0 1 1 8").hold(4, 0), NONE);
            is("they don't leave, whatever they want", with("ladder 9;rung 0 1 9;person 0 1 1 8").hold(4, 1), NONE);
            is("nothing wears, nobody tires", with("ladder 9;rung 0 1 1;person 1 20 1 8").hold(4, 0), NONE);
        });
    }

    private static void holdingOut() {
        said(24, "the first STEP: 2 times the PERSON, and 1 more for down (NONE: none), of several none, then the least", () -> {
            String far = ";person 8 1 1 0;person 8 1 1 0;person 7 1 1 0";
            is("person 3 down", with("ladder 9;rung 0 1 9" + far + ";person 1 1 1 0").hold(1, 1), 7);
            is("holds it off", with("ladder 9;rung 0 1 9" + far + ";person 1 1 1 0").hold(1, 0), NONE);
            is("person 0 up", with("ladder 4;rung 0 4 9;person 0 1 1 0;person 0 1 1 0").hold(2, 1), 0);
            is("holds it on 0", with("ladder 4;rung 0 4 9;person 0 1 1 0;person 0 1 1 0").hold(2, 0), 0);
            is("with a turn more there is time", with("ladder 4;rung 1 1 9;person 0 1 1 0;person 3 1 1 0").hold(2, 1), NONE);
            is("of two the lesser", with("ladder 9;rung 0 1 9;person 1 1 1 0;person 1 1 1 0").hold(1, 1), 1);
            is("the second, where the first is far", with("ladder 9;rung 0 1 9;person 4 1 1 0;person 1 1 1 0").hold(1, 1), 3);
            is("of several none", with("ladder 9;rung 2 1 9;person 3 1 1 0").hold(3, 1), NONE);
            is("held on 1", with("ladder 9;rung 2 1 9;person 3 1 1 0").hold(3, 0), 1);
            is("not one turn too late", with("ladder 9;rung 2 1 9;person 5 1 1 0").hold(3, 1), 1);
            is("and in time", with("ladder 9;rung 2 1 9;person 5 1 1 0").hold(3, 0), 1);
            is("too far", with("ladder 9;rung 2 1 9;person 6 1 1 0").hold(3, 0) * 10 + with("ladder 9;rung 2 1 9;person 6 1 1 0").hold(3, 1), 19);
            is("over a broken one", with("ladder 9;rung 0 1 9;broken 1;person 2 1 1 0").hold(1, 1), 1);
        });
    }
}
