/** Promise 9: an hour, sentence by sentence. */
final class HourBounds extends Bounds {
    private HourBounds() {
    }

    static void all() {
        begins();
        wills();
        steps();
        passes();
        breaks();
        tires();
        slips();
    }

    private static void begins() {
        said(9, "An HOUR: how often somebody SLIPPED in it", () -> {
            is("nobody", with("ladder 3;person 0 1 9 0").hour(), 0);
            is("no people", with("ladder 3").hour(), 0);
            is("one", with("ladder 3;rung 0 2 1;person 0 1 9 0").hour(), 1);
            is("four", with("ladder 3;rung 0 4 1" + times(";person 0 1 9 0", 4)).hour(), 4);
            is("one once, one twice", with("ladder 3;rung 2 2 2;rung 1 2 1;person 1 1 9 1;person 2 2 9 2;person 0 1 9 0").hour(), 3);
            LadderLand x = with("ladder 3;rung 2 2 5;person 1 5 1 2");
            is("by the rung and by the grip", x.hour(), 2);
            is("two down", x.person(0, 0) * 10 + x.person(0, 4), 2);
        });
        said(9, "NONE, and nothing happens, without a LADDER, or at HOUR 999", () -> {
            leaves("a new object", Scenes::fresh, LadderLand::hour, NONE);
            leaves("rules alone", Scenes::untold, LadderLand::hour, NONE);
            // behind more than 512 calls, as no row of calls within them comes there
            LadderLand x = with("ladder 3;rung 0 2 999;person 0 1 9 0");
            live(x, 998);
            is("998", x.count(6), 998);
            is("the 999th, in which the rung breaks", x.hour(), 1);
            is("999", x.count(6) * 1000 + x.count(8), 999999);
            String ahead = Sight.of(x);
            is("at hour 999", x.hour(), NONE);
            same("as it was", Sight.of(x), ahead);
            is("an act less", x.undo(), 19);
            is("then it goes on", x.hour(), 1);
        });
        said(9, "HOUR is 1 more (999 at most by hour(); HOURS that are asked go on beyond", () -> {
            LadderLand x = with("ladder 3;rung 0 2 999;person 0 1 9 0");
            for (int i = 1; i <= 400; i++) {
                x.hour();
                is("hour", x.count(6), i);
            }
            is("asked, beyond what is", x.ahead(0, 100, 0) * 1000 + x.count(6), 400);
            LadderLand y = ruledBy("ladder 3;rung 0 2 999;rung 2 2 999;person 0 1 9 0;person 2 1 9 2", "climb 0-person if hour=1000");
            live(y, 100);
            y.mend(0);
            y.mend(2);
            live(y, 899);
            is("at 999", y.hour(), NONE);
            is("the word hour", y.ahead(1, 1, 0) * 10 + y.ahead(1, 2, 0), 21);
            is("goods in 1000", y.goods(0, 1), 1000);
            is("breaks in 1048, worn 949 of 999 now", y.breaks(0) * 10000 + y.breaks(1), 1048);
        });
    }

    private static void wills() {
        said(9, "by how all is at its begin", () -> {
            LadderLand x = ruledBy("ladder 3;rung 1 1 99;person 1 1 9 1;person 0 1 9 0", "climb 1 if above=0");
            is("the first leaves, the second saw them still", x.hour() + stands(x, 2), 20);
            is("an hour later", x.hour() + stands(x, 2), 21);
        });
        said(9, "by the RULE IN FORCE, if the SUM of its first CLAUSE without a TEST, or whose TEST holds (0 without) is above 0, below 0, or 0",
            () -> {
                String three = "ladder 3;rung 1 4 99;person 1 1 9 0;person 1 1 9 2;person 1 1 9 1";
                is("each their own", lived(three, "climb person-1"), 12);
                is("by another clause", lived(three, "climb 0-1 if person=1;climb 1 if person>1"), 102);
                is("by none", lived(three, "climb 1 if person=3"), 111);
            });
        said(9, "without a RULE towards the RUNG they WANT", () -> {
            is("up, there, down", lived("ladder 3;rung 1 4 99;person 1 1 9 0;person 1 1 9 2;person 1 1 9 1"), 21);
            is("far up and down", lived("ladder 9;person 0 1 9 8;person 8 1 9 0"), 17);
            is("towards a broken one", lived("ladder 4;broken 2;person 1 1 9 2;person 3 1 9 2"), 31);
        });
    }

    /** Where all stand an hour later. */
    private static int lived(String ladder, String... rules) {
        LadderLand x = ruledBy(ladder, rules);
        x.hour();
        return stands(x, x.count(1));
    }

    private static void steps() {
        said(9, "is there no RUNG there, they stay", () -> {
            is("above the highest, below the lowest", lived("ladder 3;person 2 1 9 0;person 0 1 9 0", "climb 1-2*person"), 20);
            is("beyond two broken ones", lived("ladder 5;broken 1;broken 2;person 0 1 9 4;person 3 1 9 0"), 3);
            is("beyond one at the end", lived("ladder 4;broken 0;broken 3;person 2 1 9 3;person 1 1 9 0"), 21);
        });
        said(9, "has it ROOM, they STEP on it", () -> {
            for (int room = 1; room <= 4; room++) {
                String ahead = "ladder 3;rung 1 " + room + " 999";
                String fewer = times(";person 1 1 9 1", room - 1);
                is("one fewer than " + room, lived(ahead + fewer + ";person 0 1 9 1") % 10, 1);
                if (room < 4) {
                    is("as many as " + room, lived(ahead + fewer + ";person 1 1 9 1;person 0 1 9 1") % 10, 0);
                }
            }
            is("room made by a lesser one", lived("ladder 3;rung 1 1 99;person 1 1 9 2;person 0 1 9 2"), 21);
            is("not by a greater one", lived("ladder 3;rung 1 1 99;person 0 1 9 2;person 1 1 9 2"), 2);
            is("taken by a lesser one", lived("ladder 3;rung 1 1 99;person 0 1 9 2;person 2 1 9 0"), 12);
        });
        said(9, "A RUNG has ROOM, if fewer stand on it than that", () -> {
            is("the third of room 2 stays", lived("ladder 3;person 0 1 9 1;person 0 1 9 1;person 2 1 9 1"), 112);
            is("over a broken one", lived("ladder 4;broken 1;rung 2 1 99;person 2 1 9 2;person 0 1 9 3"), 20);
        });
        said(9, "over one BROKEN RUNG at most", () -> {
            is("up", lived("ladder 4;broken 1;person 0 1 9 3"), 2);
            is("down", lived("ladder 4;broken 2;person 3 1 9 0"), 1);
            is("two", lived("ladder 4;broken 1;broken 2;person 0 1 9 3"), 0);
        });
    }

    private static void passes() {
        said(9, "else the first, by numbers, of those on it who has not moved yet and wills to the RUNG where the former is PASSES them", () -> {
            String full = "ladder 4;rung 1 2 99;rung 0 1 99";
            is("the first", lived(full + ";person 0 1 9 3;person 1 1 9 0;person 1 1 9 0"), 101);
            is("not who wills nothing", lived(full + ";person 0 1 9 3;person 1 1 9 1;person 1 1 9 0"), 110);
            is("not who wills elsewhere", lived(full + ";person 0 1 9 3;person 1 1 9 2;person 1 1 9 0"), 120);
            is("a greater one who wills", lived(full + ";person 1 1 9 3;person 1 1 9 0;person 0 1 9 3"), 201);
            is("the one on it", lived("ladder 3;rung 1 1 99;rung 2 1 99;person 2 1 9 0;person 1 1 9 2"), 12);
            is("over a broken one", lived("ladder 4;broken 1;rung 0 1 99;rung 2 1 99;person 0 1 9 3;person 2 1 9 0"), 20);
            is("not over two", lived("ladder 4;broken 1;broken 2;rung 0 1 99;rung 3 1 99;person 0 1 9 3;person 3 1 9 0"), 3);
        });
        said(9, "both have moved, and each is where the other was; else they stay", () -> {
            LadderLand x = with("ladder 3;rung 0 1 99;rung 1 1 99;rung 2 1 99;person 0 1 9 2;person 1 1 9 0;person 2 1 9 0");
            is("who was passed does not move once more", x.hour() + stands(x, 3), 102);
            LadderLand y = with("ladder 3;rung 0 1 99;rung 1 2 99;person 2 1 9 0;person 0 1 9 2;person 1 1 9 0");
            is("who has stepped is not passed", y.hour() + stands(y, 3), 110);
            LadderLand z = with("ladder 4;rung 0 2 99;rung 1 1 99;person 1 1 9 0;person 0 1 9 3;person 0 1 9 3");
            is("who is next stays", z.hour() + stands(z, 3), 10);
        });
    }

    private static void breaks() {
        said(9, "Each RUNG is WORN by the WEIGHTS that are on it now", () -> {
            LadderLand x = with("ladder 3;person 0 20 9 1;person 0 1 9 0;person 2 7 9 2;person 2 8 9 2");
            x.hour();
            is("where they have gone", x.rung(0, 2) * 10000 + x.rung(1, 2) * 100 + x.rung(2, 2), 12015);
            x.step(0, false);
            is("not by a step", x.rung(1, 2), 20);
        });
        said(9, "One not BROKEN that is WORN as much as its STRENGTH, or more, BREAKS", () -> {
            for (int weight = 9; weight <= 11; weight++) {
                LadderLand x = with("ladder 3;rung 1 2 10;person 1 " + weight + " 9 1");
                is(weight + " of 10", x.hour() * 10 + x.rung(1, 3), weight < 10 ? 0 : 11);
            }
            LadderLand x = with("ladder 3;rung 0 2 999;person 0 1 9 0");
            for (int i = 0; i < 49; i++) {
                live(x, 10);
            }
            is("490 of 999", x.rung(0, 3) * 1000 + x.rung(0, 2), 490);
            LadderLand y = with("ladder 3;rung 1 1 1;person 1 1 9 1");
            is("the least strength", y.hour(), 1);
            LadderLand z = with("ladder 3;rung 1 4 80" + times(";person 1 20 9 1", 4));
            is("four together", z.hour() * 10 + z.person(3, 0), 40);
            LadderLand v = with("ladder 3;rung 1 4 81" + times(";person 1 20 9 1", 4));
            is("one less", v.hour() * 10 + v.person(3, 0), 1);
            LadderLand w = with("ladder 3;rung 1 2 5;person 1 5 9 0");
            w.cut(1);
            live(w, 3);
            is("a broken one is not worn", w.rung(1, 2), 0);
        });
        said(9, "from the highest on; who is on it SLIPS", () -> {
            LadderLand x = with("ladder 4;rung 3 1 5;rung 2 1 5;rung 1 1 5;person 3 5 9 3;person 2 5 9 2;person 1 5 9 1");
            is("three, two and one", x.hour(), 6);
            is("all on the lowest", stands(x, 3), 0);
            is("slips", x.person(0, 4) * 100 + x.person(1, 4) * 10 + x.person(2, 4), 321);
            LadderLand y = with("ladder 4;rung 3 1 5;rung 1 1 5;person 3 5 9 3;person 2 5 9 2;person 1 5 9 1");
            is("who lands on a rung that does not break stays there", y.hour() * 1000 + stands(y, 3), 2220);
            LadderLand z = with("ladder 4;rung 3 1 5;rung 2 1 6;person 3 5 9 3;person 2 5 9 2");
            is("who lands does not wear it in that hour", z.hour() * 1000 + stands(z, 2) * 10 + z.rung(2, 3), 1220);
            is("but in the next", z.hour() * 1000 + stands(z, 2), 2011);
            LadderLand v = with("ladder 4;rung 3 1 5;person 3 5 9 2;person 2 5 9 2");
            is("who steps down in time does not slip", v.hour() * 100 + stands(v, 2), 22);
        });
    }

    private static void tires() {
        said(9, "who STEPPED has 1 GRIP less, who PASSED 3 less, who stayed 1 more, as told at most", () -> {
            LadderLand x = with("ladder 5;rung 0 1 99;rung 1 1 99;person 0 1 9 4;person 1 1 9 0;person 3 1 9 4;person 2 1 9 2");
            x.hour();
            is("passed", x.person(0, 2) * 10 + x.person(1, 2), 66);
            is("stepped", x.person(2, 2), 8);
            is("stayed, as told", x.person(3, 2), 9);
            live(x, 2);
            is("rests", x.person(1, 2) * 10 + x.person(2, 2), 89);
            live(x, 2);
            is("as told at most", x.person(1, 2) * 10 + x.person(2, 2), 99);
            LadderLand y = with("ladder 3;rung 1 1 99;person 0 1 9 2;person 1 1 9 1;person 0 1 2 1");
            y.hour();
            is("who wills and cannot, stays", y.person(0, 2) * 10 + y.person(2, 2), 92);
        });
        said(9, "at 0 or below they SLIP, and have half of it as told, downwards, 1 at least (who FALLS by it, too)", () -> {
            int[][] told = {{1, 1, 1}, {2, 0, 1}, {3, 0, 2}, {30, 0, 29}};
            for (int[] t : told) {
                LadderLand x = with("ladder 3;person 1 1 " + t[0] + " 2");
                is("a step with " + t[0], x.hour() * 100 + x.person(0, 2), t[1] * 100 + t[2]);
                is("where they are", x.person(0, 0), t[1] == 1 ? 1 : 2);
            }
            int[][] passes = {{1, 1, 1}, {2, 1, 1}, {3, 1, 1}, {4, 0, 1}, {5, 0, 2}};
            for (int[] t : passes) {
                LadderLand x = with("ladder 4;rung 2 1 99;rung 1 1 99;person 1 1 " + t[0] + " 3;person 2 1 30 0");
                is("a pass with " + t[0], x.hour() * 100 + x.person(0, 2), t[1] * 100 + t[2]);
                is("where they are", x.person(0, 0), t[1] == 1 ? 1 : 2);
            }
            for (int grip = 1; grip <= 30; grip++) {
                LadderLand x = with("ladder 9;person 0 1 " + grip + " 8");
                int hours = 0;
                while (x.person(0, 4) == 0 && hours < 40) {
                    x.aim(0, hours % 2 == 0 ? 8 : 0);
                    x.hour();
                    hours++;
                }
                is("by steps alone from " + grip, hours, grip);
                is("half of " + grip, x.person(0, 2), Math.max(1, grip / 2));
            }
            LadderLand y = with("ladder 3;person 1 1 1 0");
            is("falls", y.hour() * 100 + y.person(0, 0), 99);
            is("half of 1 is 1", y.person(0, 2), 1);
            LadderLand z = with("ladder 3;rung 0 1 99;rung 1 1 99;person 0 1 9 2;person 1 1 3 0");
            is("who is passed falls, too", z.hour() * 100 + stands(z, 2), 119);
            is("with half", z.person(1, 2), 1);
        });
        said(9, "By numbers, each", () -> {
            LadderLand x = with("ladder 3;rung 2 1 9;person 1 9 5 2");
            is("who slipped by the rung has stepped, too", x.hour() * 100 + x.person(0, 0) * 10 + x.person(0, 2), 114);
            LadderLand y = with("ladder 3;rung 0 1 9;person 1 9 5 0");
            is("who fell by the rung keeps their grip", y.hour() * 100 + stands(y, 1) * 10 + y.person(0, 2), 195);
        });
    }

    private static void slips() {
        said(9, "to the next lower RUNG that is not BROKEN, however far (ROOM not asked); is there none, they have FALLEN", () -> {
            LadderLand x = with("ladder 9;rung 8 1 1;rung 0 1 99;person 8 1 9 8;person 0 1 9 0"
                + ";broken 1;broken 2;broken 3;broken 4;broken 5;broken 6;broken 7");
            is("over seven", x.hour() * 100 + stands(x, 2), 100);
            is("on a full one", x.rung(0, 4), 3);
            LadderLand y = with("ladder 3;rung 0 4 60" + times(";person 0 20 9 0", 4));
            y.hour();
            is("all have fallen", stands(y, 4) * 10 + y.count(2), 99990);
            is("an hour without anybody", y.hour() * 10 + y.count(6), 2);
            LadderLand z = with("ladder 9;rung 8 1 1;person 8 1 9 8" + ";broken 0;broken 1;broken 2;broken 3;broken 4;broken 5;broken 6;broken 7");
            is("over eight there is none", z.hour() * 10 + stands(z, 1), 19);
            LadderLand v = with("ladder 3;rung 1 1 99;rung 2 1 3;person 1 1 9 1;person 2 3 9 2");
            is("next to it, though full", v.hour() * 100 + stands(v, 2), 111);
        });
    }
}
