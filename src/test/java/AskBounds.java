/** Promises 16, 17, 21, 25 and 26: what is asked of the hours to come, sentence by sentence. */
final class AskBounds extends Bounds {
    private AskBounds() {
    }

    static void all() {
        changingNothing();
        ahead();
        breaks();
        mending();
        goods();
        standing();
    }

    private static void changingNothing() {
        said(16, "By what is asked nothing changes", () -> {
            LadderLand x = Scenes.lived();
            String seen = Sight.of(x);
            for (int n = 0; n <= 3; n++) {
                x.ahead(n, 33 * n + 1, n % 3);
                x.hold(n + 1, n % 2);
                x.look(20 * n, n % 2);
                x.moves(5 * n);
                x.move(5 * n, n, n % 3);
                x.squeeze(5 * n);
                x.goods(n, n + 1);
                x.stand(n, 5 * n);
                x.years(3 * n + 1, 19 * n + 1, 33 * n, n % 2);
                x.breaks(n % 2);
                x.mending(n % 2);
                x.ruled(n % 2);
            }
            x.capital();
            x.ballot();
            same("what is seen", Sight.of(x), seen);
            LadderLand y = Scenes.full();
            Sight.of(y);
            same("what is kept", Sight.rest(y), Sight.rest(Scenes.full()));
        });
        said(17, "HOURS go on by the RULE IN FORCE", () -> {
            LadderLand x = with("ladder 5;rung 4 1 30;person 3 5 9 0;person 2 5 9 2", "climb 1-person", "climb 0");
            is("none: ahead", x.ahead(0, 2, 0), 1);
            is("none: breaks", x.breaks(0), 2);
            is("none: goods", x.goods(3, 2), -2);
            x.force(0);
            is("up: ahead", x.ahead(0, 2, 0), 4);
            is("up: breaks", x.breaks(0) * 100 + x.breaks(1), 405);
            x.force(1);
            is("stay: ahead", x.ahead(0, 2, 0), 3);
            is("stay: breaks", x.breaks(0) * 100 + x.breaks(1), 339);
            is("stay: goods", x.goods(3, 2), 0);
        });
        said(17, "an HOUR is told as count(6) is at its begin", () -> {
            LadderLand x = with("ladder 3;rung 1 2 20;person 1 5 9 1;person 0 1 9 0");
            for (int hour = 0; hour < 3; hour++) {
                is("breaks in", x.breaks(1), 3);
                is("goods are there", x.goods(0, 1), hour);
                is("there already", x.goods(2, 2), hour);
                is("hour", x.count(6), hour);
                x.hour();
            }
            is("in this hour", x.breaks(1), 3);
            is("not there behind it", x.goods(0, 1), -2);
            x.hour();
            is("broken behind hour 3", x.rung(1, 3) * 10 + x.count(6), 14);
        });
    }

    // ---- promise 16

    private static void ahead() {
        said(16, "AHEAD what 0: RUNG (NONE: FALLEN), 1: GRIP, 2: SLIPS", () -> {
            String ladder = "ladder 5;rung 2 1 40;rung 4 2 60;person 0 5 2 4;person 4 3 7 0;person 1 2 3 4";
            LadderLand now = with(ladder);
            LadderLand then = with(ladder);
            for (int n = 0; n <= 100; n++) {
                int p = n % 3;
                is("rung of " + p + " in " + n, now.ahead(p, n, 0), then.person(p, 0));
                is("grip of " + p + " in " + n, now.ahead(p, n, 1), then.person(p, 2));
                is("slips of " + p + " in " + n, now.ahead(p, n, 2), then.person(p, 4));
                then.hour();
            }
            LadderLand x = with("ladder 3;rung 0 1 6;person 0 3 9 0");
            is("before the fall", x.ahead(0, 1, 0) * 10 + x.ahead(0, 1, 2), 0);
            is("fallen", x.ahead(0, 2, 0), NONE);
            is("grip of who falls", x.ahead(0, 2, 1) * 10 + x.ahead(0, 2, 2), 91);
            live(x, 2);
            is("fallen already", x.ahead(0, 0, 0), NONE);
            is("and ever", x.ahead(0, 100, 0), NONE);
            is("slips so far, too", x.ahead(0, 50, 2), 1);
        });
        said(16, "AHEAD n HOURS (0 to 100)", () -> {
            LadderLand x = with("ladder 3;rung 0 2 100;person 0 1 9 0");
            is("as it is", x.ahead(0, 0, 0), 0);
            is("99", x.ahead(0, 99, 0), 0);
            is("in the hundredth hour", x.ahead(0, 100, 0), NONE);
        });
        said(16, "-2 without these", () -> {
            leavesEach("hours", Scenes::lived, numbers(101, 102, -1, -2, MIN, MAX), (x, n) -> x.ahead(0, n, 0), -2);
            leavesEach("nobody such", Scenes::lived, numbers(4, 5, -1, -2, MIN, MAX), (x, p) -> x.ahead(p, 1, 0), -2);
            leavesEach("nobody such", Scenes::told, numbers(2, -1), (x, p) -> x.ahead(p, 0, 0), -2);
            leavesEach("what", Scenes::lived, numbers(3, 4, -1, -2, MIN, MAX), (x, what) -> x.ahead(0, 1, what), -2);
        });
    }

    // ---- promise 17

    private static void breaks() {
        said(17, "BREAKS: the first RUNG that does, of several in one HOUR the highest, in 200 HOURS: which; the HOUR in which", () -> {
            LadderLand x = with("ladder 5;rung 1 2 12;rung 3 2 12;rung 2 2 13;person 1 4 9 1;person 3 4 9 3;person 2 4 9 2");
            is("of two the highest", x.breaks(0) * 10 + x.breaks(1), 32);
            LadderLand y = with("ladder 5;rung 1 2 12;rung 3 2 13;person 1 4 9 1;person 3 4 9 3");
            is("the lower one first", y.breaks(0) * 10 + y.breaks(1), 12);
            LadderLand z = with("ladder 9;rung 8 1 1;rung 0 1 1;person 8 20 9 8;person 0 20 9 0");
            is("in the first hour", z.breaks(0) * 10 + z.breaks(1), 80);
            LadderLand v = with("ladder 9;rung 0 1 1;person 0 20 9 0");
            is("the lowest", v.breaks(0) * 10 + v.breaks(1), 0);
            LadderLand w = ruledBy("ladder 3;rung 1 2 5;person 1 5 9 1", "climb 0");
            w.hour();
            is("one that is broken breaks no more", w.breaks(0) * 100 + w.breaks(1), 40);
        });
        said(17, "BREAKS what 0: which, 1: the HOUR; -2: none does", () -> {
            LadderLand x = with("ladder 3;rung 0 2 800;person 0 4 9 0");
            is("in the 200th hour", x.breaks(1), 199);
            is("which", x.breaks(0), 0);
            LadderLand y = with("ladder 3;rung 0 2 801;person 0 4 9 0");
            is("in the 201st", y.breaks(0), -2);
            is("nor when", y.breaks(1), -2);
            y.hour();
            is("an hour later it is the 200th", y.breaks(1), 200);
            is("nobody", with("ladder 3").breaks(0), -2);
            is("nobody, when", with("ladder 3").breaks(1), -2);
            LadderLand z = with("ladder 3;rung 0 2 1;person 0 1 9 0");
            z.hour();
            is("all have fallen", z.breaks(0), -2);
        });
        said(17, "NONE for others, or without a LADDER", () -> {
            leavesEach("what", Scenes::lived, numbers(2, 3, -1, -2, MIN, MAX), LadderLand::breaks, NONE);
            leavesEach("what of nobody", () -> with("ladder 3"), numbers(2, -1), LadderLand::breaks, NONE);
            leavesEach("no ladder", Scenes::untold, numbers(0, 1, 2, -1), LadderLand::breaks, NONE);
        });
    }

    // ---- promise 21

    /** Person 0 stays on rung 0, person 1 on rung 1, both worn: by weights and strengths. */
    private static LadderLand worn(String ladder, int hours) {
        LadderLand x = with(ladder);
        live(x, hours);
        return x;
    }

    private static void mending() {
        said(21, "the RUNG to MEND now (WORN or BROKEN) so that BREAKS comes latest (never is latest); of several the least; the HOUR then",
            () -> {
                LadderLand x = worn("ladder 3;rung 0 1 100;rung 1 1 90;person 0 10 9 0;person 1 10 9 1", 5);
                // worn 50 and 50: with rung 0 mended rung 1 breaks in hour 8, with rung 1 mended rung 0 in hour 9
                is("the one that comes later", x.mending(0) * 100 + x.mending(1), 109);
                LadderLand y = worn("ladder 3;rung 0 1 100;rung 1 1 100;person 0 10 9 0;person 1 10 9 1", 5);
                is("of several the least", y.mending(0) * 100 + y.mending(1), 9);
                LadderLand z = worn("ladder 4;rung 0 1 999;rung 3 1 999;broken 1;broken 2;person 0 1 9 0;person 3 1 9 3", 1);
                is("never, by each: the least", z.mending(0), 0);
                is("never", z.mending(1), NONE);
                LadderLand v = with("ladder 3;rung 0 1 999;broken 2;person 0 1 9 0");
                is("broken alone", v.mending(0) * 10 + v.mending(1), 19);
            });
        said(21, "1: the HOUR (NONE: never; -2 likewise)", () -> {
            LadderLand x = worn("ladder 3;rung 0 1 999;person 0 4 9 0", 100);
            // worn 400, 200 when mended: 200 hours more make 1000, 199 make 996
            is("in the 200th hour", x.mending(1), 299);
            LadderLand y = worn("ladder 3;rung 0 1 999;person 0 4 9 0", 99);
            // worn 396, 198 when mended: 200 hours more make 998
            is("never", y.mending(1), NONE);
            is("which", y.mending(0), 0);
            LadderLand z = worn("ladder 3;rung 0 1 5;person 0 16 9 0", 1);
            is("mended to 8 of 5 it breaks in the next hour, nobody on it", z.mending(0) * 10 + z.mending(1), 1);
            LadderLand v = worn("ladder 3;rung 0 1 5;person 0 9 9 0", 1);
            is("mended to 4 of 5 it never does", v.mending(0) * 10 + v.mending(1), NONE);
        });
        said(21, "MENDING what 0: which (-2: none is WORN or BROKEN)", () -> {
            is("none", with("ladder 3;person 0 1 9 0").mending(0), -2);
            is("when", with("ladder 3;person 0 1 9 0").mending(1), -2);
            is("nobody", with("ladder 3").mending(0), -2);
            is("broken, nobody", with("ladder 3;broken 2").mending(0), 2);
            is("broken, nobody, never", with("ladder 3;broken 2").mending(1), NONE);
            LadderLand x = worn("ladder 3;person 1 1 9 1", 1);
            is("worn 1", x.mending(0), 1);
            x.mend(1);
            is("mended", x.mending(0), -2);
            LadderLand y = with("ladder 9;broken 8");
            is("the highest", y.mending(0), 8);
        });
        said(21, "-3 for others, or without a LADDER", () -> {
            leavesEach("what", Scenes::lived, numbers(2, 3, -1, -2, MIN, MAX), LadderLand::mending, -3);
            leavesEach("what, where nothing is worn", Scenes::told, numbers(2, -1), LadderLand::mending, -3);
            leavesEach("no ladder", Scenes::untold, numbers(0, 1, 2, -1), LadderLand::mending, -3);
        });
    }

    // ---- promise 25

    private static void goods() {
        said(25, "GOODS (there already: HOUR)", () -> {
            LadderLand x = with("ladder 9;broken 8;person 4 1 9 4");
            live(x, 3);
            for (int r = 0; r < 9; r++) {
                is("rung " + r, x.goods(r, r), 3);
            }
        });
        said(25, "behind each HOUR they go one RUNG (by number) nearer, if PEOPLE stand on both: the HOUR behind which they are there (of 200)",
            () -> {
                String four = "ladder 4;person 0 1 9 0;person 1 1 9 1;person 2 1 9 2;person 3 1 9 3";
                for (int from = 0; from < 4; from++) {
                    for (int to = 0; to < 4; to++) {
                        is(from + " to " + to, with(four).goods(from, to), from == to ? 0 : Math.abs(from - to) - 1);
                    }
                }
                is("behind it, not ahead of it", with("ladder 3;person 0 1 9 0;person 2 1 9 1").goods(0, 1), 0);
                is("who has gone by then", with("ladder 3;person 0 1 9 0;person 1 1 9 2").goods(0, 1), -2);
                is("nobody there", with("ladder 3;person 0 1 9 0").goods(0, 1), -2);
                is("nobody here", with("ladder 3;person 0 1 9 0").goods(1, 0), -2);
                is("by number, not over a broken one", with("ladder 3;broken 1;person 0 1 9 0;person 2 1 9 2").goods(0, 2), -2);
            });
        said(25, "-2: not in these", () -> {
            String three = "ladder 3;rung 0 2 999;rung 2 2 999;person 0 1 9 0;person 2 1 9 2";
            is("behind the 200th", ruledBy(three, "climb 0-person if hour=199").goods(0, 1), 199);
            is("behind the 201st", ruledBy(three, "climb 0-person if hour=200").goods(0, 1), -2);
            LadderLand x = ruledBy(three, "climb 0-person if hour=200");
            x.hour();
            is("the 200th from now on", x.goods(0, 1), 200);
            is("half the way is not there", ruledBy(three, "climb 0-person if hour=5").goods(0, 2), -2);
            is("nobody", with("ladder 3").goods(0, 2), -2);
        });
        said(25, "NONE without these", () -> {
            int[] wrong = {9, 10, -1, -2, MIN, MAX};
            leavesEach("from", Scenes::full, wrong, (x, r) -> x.goods(r, 0), NONE);
            leavesEach("to", Scenes::full, wrong, (x, r) -> x.goods(0, r), NONE);
            leavesEach("both", Scenes::full, wrong, (x, r) -> x.goods(r, r), NONE);
            leavesEach("of six", Scenes::lived, numbers(6, -1), (x, r) -> x.goods(5, r), NONE);
            is("the highest", Scenes.full().goods(8, 8), 24);
        });
    }

    // ---- promise 26

    private static void standing() {
        said(26, "how many HOURS it would bear that and all that stands there now, till it BREAKS (that in which it BREAKS counts)", () -> {
            for (int weight = 1; weight <= 20; weight++) {
                int hours = 0;
                for (int worn = 0; worn < 100; worn += weight) {
                    hours++;
                }
                is("100 by " + weight, with("ladder 3;rung 0 1 100").stand(0, weight), hours);
                is("with 7 more", with("ladder 3;rung 0 1 100;person 0 7 9 0").stand(0, weight), (100 + weight + 6) / (weight + 7));
            }
            is("as much as its strength: one hour", with("ladder 3;rung 0 1 5").stand(0, 5), 1);
            is("one less", with("ladder 3;rung 0 1 6").stand(0, 5), 2);
            is("the longest", with("ladder 3;rung 0 1 999").stand(0, 1), 999);
            is("the shortest", with("ladder 3;rung 0 4 999" + times(";person 0 20 9 0", 4)).stand(0, 20), 10);
            LadderLand x = with("ladder 3;rung 0 2 10;person 0 3 9 0");
            live(x, 3);
            is("worn 9 of 10", x.stand(0, 1), 1);
            LadderLand y = with("ladder 3;rung 0 1 5;person 0 10 9 0");
            y.hour();
            y.mend(0);
            is("worn as much as its strength", y.rung(0, 2), 5);
            is("it breaks at once", y.stand(0, 20), 1);
            LadderLand z = with("ladder 3;rung 0 4 999" + times(";person 0 20 9 0", 4));
            for (int i = 0; i < 13; i++) {
                z.hour();
            }
            is("it breaks in the thirteenth", z.rung(0, 2) * 10 + z.rung(0, 3), 10401);
            z.mend(0);
            is("half of 1040: 479 left", z.stand(0, 20), 24);
        });
        said(26, "STAND of a WEIGHT (1 to 20) on a RUNG", () -> {
            is("weight 1", with("ladder 3").stand(0, 1), 200);
            is("weight 20", with("ladder 3").stand(2, 20), 10);
            leavesEach("weight", Scenes::lived, numbers(0, 21, -1, MIN, MAX), (x, weight) -> x.stand(1, weight), NONE);
        });
        said(26, "NONE without these (a RUNG that is not BROKEN)", () -> {
            leavesEach("no such rung", Scenes::full, numbers(9, 10, -1, -2, MIN, MAX), (x, r) -> x.stand(r, 1), NONE);
            leavesEach("no such rung", Scenes::lived, numbers(6, -1), (x, r) -> x.stand(r, 1), NONE);
            leaves("broken", Scenes::told, x -> x.stand(3, 1), NONE);
            leaves("broken by a cut", Scenes::lived, x -> x.stand(0, 1), NONE);
            LadderLand x = Scenes.told();
            x.mend(3);
            is("mended", x.stand(3, 1), 200);
        });
    }
}
