/** Promises 1 to 3 and what both kinds of texts share, sentence by sentence. */
final class TapeBounds extends Bounds {
    private TapeBounds() {
    }

    static void all() {
        newObject();
        feeding();
        ending();
    }

    // ---- promise 1

    private static void newObject() {
        said(1, "No LADDER, no RULES, none IN FORCE", () -> {
            LadderLand x = new LadderLand();
            is("rungs", x.count(0), 0);
            is("people", x.count(1), 0);
            is("rules", x.count(4), 0);
            is("in force", x.count(5), NONE);
            is("the tape", x.count(12), 0);
            is("x", x.count(11), 0);
            is("hour, slips, worn, notes, acts", x.count(6) + x.count(7) + x.count(8) + x.count(9) + x.count(10), 0);
        });
        said(1, "No LADDER", () -> withoutLadder("a new object", Scenes::fresh));
        said(1, "No LADDER", () -> withoutLadder("rules alone", Scenes::untold));
        said(1, "none IN FORCE", () -> {
            leaves("force none", Scenes::fresh, x -> x.force(NONE), NONE);
            leaves("force 0", Scenes::fresh, x -> x.force(0), -2);
        });
    }

    private static void withoutLadder(String scene, java.util.function.Supplier<LadderLand> made) {
        place(scene + " without a ladder");
        for (int what = -1; what < 8; what++) {
            int w = what;
            leaves("person " + w, made, x -> x.person(0, w), -2);
            leaves("rung " + w, made, x -> x.rung(0, w), NONE);
            leaves("breaks " + w, made, x -> x.breaks(w), NONE);
            leaves("mending " + w, made, x -> x.mending(w), -3);
            leaves("ruled " + w, made, x -> x.ruled(w), -3);
            leaves("ahead " + w, made, x -> x.ahead(0, 0, w), -2);
            leaves("hold " + w, made, x -> x.hold(1, w), -2);
            leaves("look " + w, made, x -> x.look(0, w), NONE);
            leaves("years " + w, made, x -> x.years(1, 1, 0, w), NONE);
            leaves("move " + w, made, x -> x.move(0, 0, w), -3);
            leaves("moves " + w, made, x -> x.moves(w), NONE);
            leaves("squeeze " + w, made, x -> x.squeeze(w), NONE);
        }
        leaves("hour", made, LadderLand::hour, NONE);
        leaves("step", made, x -> x.step(0, true), NONE);
        leaves("pass", made, x -> bit(x.pass(0, 1)), 0);
        leaves("pass with oneself", made, x -> bit(x.pass(0, 0)), 0);
        leaves("mend", made, x -> x.mend(0), NONE);
        leaves("cut", made, x -> x.cut(0), NONE);
        leaves("aim", made, x -> x.aim(0, 1), NONE);
        leaves("undo", made, LadderLand::undo, NONE);
        leaves("capital", made, LadderLand::capital, NONE);
        leaves("ballot", made, LadderLand::ballot, NONE);
        leaves("goods", made, x -> x.goods(0, 0), NONE);
        leaves("stand", made, x -> x.stand(0, 1), NONE);
        leaves("note", made, x -> x.note(0, 0, 0), -2);
        leaves("no note", made, x -> x.note(NONE, 0, 0), 0);
        leaves("back", made, x -> x.back(0), NONE);
    }

    // ---- promise 2

    private static void feeding() {
        said(2, "Twenty bytes come behind the TAPE", () -> {
            LadderLand x = new LadderLand();
            for (int bytes = 20; bytes <= 400; bytes += 20) {
                is("of an empty tape on", x.feed(0, 0, 0, 0, 0), bytes);
                is("as counted", x.count(12), bytes);
            }
            for (int kept = 0; kept < 20; kept++) {
                LadderLand y = new LadderLand();
                String text = "ladder 9;broken 8;br";
                feed(y, text);
                y.end(kept);
                is("behind " + kept, feed(y, text.substring(kept) + times(" ", kept)), kept + 20);
                y.end(17);
                is("the text goes on there", y.ladder(), 0);
                is("and is whole", y.count(3), 256);
            }
        });
        said(2, "of each number the highest first", () -> {
            for (int i = 0; i < 20; i++) {
                LadderLand x = new LadderLand();
                feed(x, times(" ", i) + "#" + times(" ", 19 - i));
                is("byte " + i, x.rule(), fault(i, 0));
            }
            LadderLand x = new LadderLand();
            x.feed(0x6C616464, 0x65722034, 0x3B62726F, 0x6B656E20, 0x32202020);
            is("a text in numbers", x.ladder(), 0);
            is("four rungs", x.count(0), 4);
            is("the third is broken", x.count(3), 4);
            LadderLand y = new LadderLand();
            y.feed(0x6C616464, 0x65722034, 0xFFFFFFFF, 0, 0);
            is("numbers below 0 have bytes, too", y.ladder(), fault(8, 0));
        });
        said(2, "how many it has", () -> {
            LadderLand x = new LadderLand();
            is("20 at first", x.feed(MIN, MAX, -1, 0, 1), 20);
            x.end(13);
            is("behind 13", x.feed(0, 0, 0, 0, 0), 33);
        });
        said(2, "NONE, and none comes, if it would have more than 400", () -> {
            for (int bytes = 375; bytes <= 400; bytes++) {
                int kept = bytes;
                LadderLand x = tapeOf(kept);
                is("behind " + kept, x.feed(1, 2, 3, 4, 5), kept <= 380 ? kept + 20 : NONE);
                is("counted", x.count(12), kept <= 380 ? kept + 20 : kept);
                if (kept > 380) {
                    leaves("behind " + kept, () -> tapeOf(kept), y -> y.feed(1, 2, 3, 4, 5), NONE);
                }
            }
            leaves("a full tape", Scenes::full, x -> x.feed(-1, -1, -1, -1, -1), NONE);
            LadderLand x = tapeOf(380);
            feed(x, "; broken 1; broken 2");
            is("the last twenty are read", x.ladder(), 0);
            is("to the last byte", x.count(3), 6);
            LadderLand y = tapeOf(381);
            feed(y, "; broken 1; broken 2");
            is("what does not come is not read", y.ladder() + y.count(3), 0);
        });
    }

    /** A ladder of three rungs, and blanks. */
    private static LadderLand tapeOf(int bytes) {
        LadderLand x = new LadderLand();
        Bytes.put(x, "ladder 3" + times(" ", bytes - 8));
        return x;
    }

    /** Twenty bytes. */
    private static int feed(LadderLand x, String text) {
        int[] p = Bytes.pieces(text)[0];
        return x.feed(p[0], p[1], p[2], p[3], p[4]);
    }

    // ---- promise 3

    private static void ending() {
        said(3, "The TAPE has its first n bytes alone: n", () -> {
            String text = "ladder 3;broken 0;  ";
            int[] place = {0, 0, 0, 0, 0, 0, 6, 7, NONE, 9, 9, 9, 9, 9, 9, 15, 16, NONE, 18, 19, 20};
            for (int n = 0; n <= 20; n++) {
                LadderLand x = new LadderLand();
                feed(x, text);
                is("end", x.end(n), n);
                is("counted", x.count(12), n);
                is("once more", x.end(n), n);
                is("what is left is read: " + text.substring(0, n), x.ladder(), place[n] == NONE ? 0 : fault(place[n], 0));
            }
            LadderLand x = tapeOf(400);
            is("a full tape whole", x.end(400), 400);
            is("but one", x.end(399), 399);
            is("nothing", x.end(0), 0);
            is("nothing of nothing", x.end(0), 0);
        });
        said(3, "NONE, and nothing happens, if it has not so many, or n is below 0", () -> {
            leavesEach("of an empty tape", Scenes::fresh, numbers(1, 2, 20, 400, -1, MIN, MAX), LadderLand::end, NONE);
            leavesEach("of 380", () -> tapeOf(380), numbers(381, 400, 401, -1, MAX), LadderLand::end, NONE);
            leavesEach("of a full one", Scenes::full, numbers(401, -1, -2, MIN, MAX), LadderLand::end, NONE);
            LadderLand x = tapeOf(20);
            x.end(9);
            is("what was cut off is gone", x.end(10), NONE);
            is("and nine stay", x.count(12), 9);
            for (int n = 13; n <= 15; n++) {
                LadderLand y = new LadderLand();
                feed(y, "climb 1 if 1<=1=1   ");
                y.end(n);
                is("no byte of it is read, " + n, y.rule(), n < 15 ? fault(n, 0) : 0);
            }
            LadderLand z = new LadderLand();
            feed(z, "climb 123456+rung   ");
            z.end(11);
            is("no digit", z.rule(), 0);
            feed(z, "climb rung          ");
            z.end(9);
            is("no letter", z.rule(), fault(6, 0));
        });
    }
}
