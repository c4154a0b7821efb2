import java.util.function.Supplier;

/** Promise 5: what a rule's text may be, sentence by sentence, and what its words and signs mean at their edges. */
final class RuleBounds extends Bounds {
    /** 2 to the 63rd: the lowest number of 64 bits. */
    private static final String LOWEST = "65536*65536*65536*32768";

    private RuleBounds() {
    }

    static void all() {
        texts();
        limits();
        faults();
        reading();
        sums();
        tests();
        words();
    }

    private static void taken(String text) {
        is("taken: " + text, ruleOf(text), 0);
    }

    private static void refused(String text, int place, int kind) {
        is("refused: " + text, ruleOf(text), fault(place, kind));
    }

    private static void texts() {
        said(5, "texts likewise, 12 CLAUSES at most", () -> {
            String twelve = times("climb 1;", 11) + "climb 1";
            taken(twelve);
            refused(twelve + ";climb 1", 96, 4);
            refused(twelve + ";  climb", 98, 4);
            refused(twelve + ";", 96, 0);
            taken("climb 1" + times(" ", 393));
            taken("climb 1 if" + times(" ", 387) + "1=1");
            taken(times("climb 9 if 1=1;", 11) + "climb 9");
            refused(times(" ", 400), 400, 0);
            refused("climb 1" + times(" ", 392) + ";", 400, 0);
        });
        said(5, "climb SUM [ if TEST ]", () -> {
            taken("climb 1");
            taken("climb 1 if 1=1");
            refused("climb", 5, 0);
            refused("climb if 1=1", 6, 0);
            refused("climb 1 if", 10, 0);
            refused("climb 1 if 1=1 if 1=1", 15, 0);
            refused("1", 0, 0);
            refused("if 1=1", 0, 0);
            refused("ladder 3", 0, 0);
        });
        said(5, "FACT: not FACT | [ TEST ] (these brackets are signs) | SUM SIGN SUM, SIGN one of < <= = >= >", () -> {
            for (String sign : new String[] {"<", "<=", "=", ">=", ">"}) {
                taken("climb 1 if 1" + sign + "1");
                taken("climb 1 if [not 1 " + sign + " 1]");
            }
            refused("climb 1 if 1=<1", 13, 0);
            refused("climb 1 if 1<>1", 13, 0);
            refused("climb 1 if 1==1", 13, 0);
            refused("climb 1 if 1< =1", 14, 0);
            refused("climb 1 if 1> =1", 14, 0);
            refused("climb 1 if 1<=>1", 14, 0);
            refused("climb 1 if []", 12, 0);
            refused("climb 1 if [1=1", 15, 0);
            refused("climb 1 if 1=1]", 14, 0);
            refused("climb 1 if not", 14, 0);
            refused("climb 1 if [1]=1", 13, 0);
            refused("climb 1 if 1=[1]", 13, 0);
            refused("climb [1]", 6, 0);
            refused("climb 1 if 1=1 not 1=1", 15, 0);
        });
        said(5, "VALUE: NUMBER (1 to 5 digits, as far as digits go on)", () -> {
            taken("climb 0");
            taken("climb 99999");
            taken("climb 00000");
            refused("climb 100000", 6, 1);
            refused("climb 000000", 6, 1);
            refused("climb 1+" + times("1", 392), 8, 1);
            refused("climb 1 1", 8, 0);
        });
        said(5, "WORDS (small letters, as far as these go on)", () -> {
            for (String word : new String[] {"person", "rung", "want", "weight", "grip", "told", "hour", "here", "above", "below",
                "worn", "strength", "slips"}) {
                taken("climb " + word);
                taken("climb " + word + "+1 if 1<" + word);
                refused("climb " + word + "s", 6, 0);
                refused("climb " + word.substring(1), 6, 0);
                refused("climb " + word.substring(0, word.length() - 1), 6, 0);
                refused("climb 1*" + (char) (word.charAt(0) - 32) + word.substring(1), 8, 0);
            }
            for (String word : new String[] {"climb", "if", "not", "and", "or", "ladder", "broken", "room", "people"}) {
                refused("climb " + word, 6, 0);
            }
            taken("climb1if2=rung");
            refused("climb1if2=rung2", 14, 0);
            refused("climb1ifrung=2", 6, 0);
        });
        said(5, "Blanks (32) stand between as one likes", () -> {
            taken("climb1if[1<2]or not[3=4]and 5>=grip");
            taken("  climb  1  if  [  1  <  2  ]  or  not  [  3  =  4  ]  ");
            refused("climb1if1=1or not1=1andgrip=1", 20, 0);
            refused("climb\t1", 5, 0);
        });
    }

    private static void limits() {
        said(5, "[ and not lie within one another 10 deep at most", () -> {
            String test = "climb 1 if ";
            taken(test + times("[", 10) + "1=1" + times("]", 10));
            taken(test + times("not ", 10) + "1=1");
            taken(test + times("not[", 5) + "1=1" + times("]", 5));
            taken(test + times("[", 9) + "[1=1] and [2=2] or not 3=3" + times("]", 9));
            taken(times("climb 1 if " + times("[", 10) + "1=1" + times("]", 10) + ";", 5) + "climb 1");
            taken(test + times("[", 10) + "1=1" + times("]", 10) + " or " + times("not ", 10) + "1=1");
        });
        said(5, "2 too deep (at the sign that opens, or the word not)", () -> {
            String test = "climb 1 if ";
            refused(test + times("[", 11) + "1=1" + times("]", 11), 21, 2);
            refused(test + times("[", 11), 21, 2);
            refused(test + times("not ", 11) + "1=1", 51, 2);
            refused(test + times("[", 10) + "not 1=1" + times("]", 10), 21, 2);
            refused(test + times("not ", 10) + "[1=1]", 51, 2);
            refused(test + times("[", 10) + "1=1 and [1=1]" + times("]", 10), 29, 2);
            refused(test + times("[", 10) + "1=1 or not 1=1" + times("]", 10), 28, 2);
            refused(test + times("not[", 5) + " not 1=1" + times("]", 5), 32, 2);
        });
        said(5, "at most 60 VALUES (of SUMS) and FACTS made of a SIGN, together", () -> {
            taken("climb 1" + times("+1", 59));
            taken("climb 1" + times("*rung", 59));
            taken("climb 1" + times("+1", 56) + " if 1=1");
            taken(times("climb 1 if 1=1;", 11) + "climb 1" + times("+1", 15));
            taken(times("climb 1 if 1=1;", 11) + "climb 1" + times("+1", 12) + " if 1=1");
            taken("climb 1 if " + times("1=1 or ", 18) + "1=1+1+1");
            taken("climb 1 if " + times("[not 1=1]and ", 18) + "[not 1=1+1+1]");
        });
        said(5, "60 VALUES (of SUMS) and FACTS made of a SIGN, together", () -> {
            LadderLand x = with("ladder 3;person 1 1 9 1");
            String sixty = "climb 1" + times("+1", 59);
            for (int i = 0; i < 25; i++) {
                Bytes.put(x, sixty + (i % 2 == 0 ? "+1" : "+"));
                is("one too many, or none", x.rule(), i % 2 == 0 ? fault(126, 3) : fault(126, 0));
            }
            for (int i = 0; i < 5; i++) {
                Bytes.put(x, "climb 0-59" + times("+1", 58));
                is("each text by itself", x.rule(), i);
                x.force(i);
                is("what is read is what counts", x.ahead(0, 1, 0), 0);
            }
            Bytes.put(x, times("climb 1 if 1=2;", 11) + "climb 7-4-3");
            is("each text's clauses, too", x.rule(), 5);
            x.force(5);
            is("the last of them", x.ahead(0, 1, 0), 1);
        });
        said(5, "3 one VALUE or FACT too many (at its first byte; of a FACT at its SIGN)", () -> {
            refused("climb 1" + times("+1", 60), 126, 3);
            refused("climb 1" + times("+1", 59) + "+ rung", 127, 3);
            refused("climb 1" + times("+1", 57) + " if 1=1", 7 + 114 + 6, 3);
            refused("climb 1" + times("+1", 58) + " if 1 >= 1", 7 + 116 + 6, 3);
            refused("climb 1" + times("+1", 59) + " if 1=1", 7 + 118 + 4, 3);
            String eleven = times("climb 1 if 1=1;", 11);
            refused(eleven + "climb 1" + times("+1", 16), eleven.length() + 7 + 31, 3);
            refused("climb 1 if " + times("1=1 or ", 18) + "1=1+1+1+1", 11 + 126 + 8, 3);
        });
        said(5, "4 one CLAUSE too many, a second ladder, another CLAUSE ahead of it, a fifth PERSON (at its first byte)",
            () -> refused(times("climb 1;", 11) + "climb 1 ;   climb 1", 100, 4));
    }

    private static void faults() {
        said(5, "0 a byte or WORD that can't stand there, or the end (behind the last byte)", () -> {
            String text = "climb want-rung if not[hour<9 or grip>=2]and above=3";
            int[] place = {0, 0, 0, 0, 0, 5, 6, 6, 6, 6, NONE, 11, 11, 11, 11, NONE, NONE, 16, 18, 19, 19, 19, 22, 23, 23, 23, 23, 27,
                28, 29, 30, 30, 32, 33, 33, 33, 33, 37, 38, 39, 40, NONE, 41, 41, 44, 45, 45, 45, 45, 45, 50, 51, NONE};
            for (int n = 0; n <= text.length(); n++) {
                is("as far as " + n, ruleOf(text.substring(0, n)), place[n] == NONE ? 0 : fault(place[n], 0));
            }
            for (int b = 0; b < 256; b++) {
                char c = (char) b;
                boolean goesOn = c == ' ' || c >= '0' && c <= '9';
                boolean joins = "+-*/%;".indexOf(c) >= 0;
                is("byte " + b + " behind a sum", ruleOf("climb 1" + c), goesOn ? 0 : joins ? fault(8, 0) : fault(7, 0));
                is("byte " + b + " behind a test", ruleOf("climb 1 if 1=1" + c), goesOn ? 0 : joins ? fault(15, 0) : fault(14, 0));
                int due = c >= '0' && c <= '9' ? 0 : c == '=' || c == ' ' ? fault(14, 0) : fault(13, 0);
                is("byte " + b + " behind a sign", ruleOf("climb 1 if 1<" + c), due);
                due = c >= '0' && c <= '9' ? 0 : c == ' ' ? fault(7, 0) : fault(6, 0);
                is("byte " + b + " for a value", ruleOf("climb " + c), due);
            }
        });
        said(5, "1 a NUMBER of more digits, or not as told", () -> {
            refused("climb 123456", 6, 1);
            refused("climb 1 if grip<123456", 16, 1);
            refused("climb  1 + 000001", 11, 1);
        });
        said(5, "FAULTS, the first along the text, 1 + 8 * its place", () -> {
            refused("climb 123456;climbs", 6, 1);
            refused("climb 1 if [1=1;climb 123456", 15, 0);
            refused("climb 1 if " + times("[", 11) + "#", 21, 2);
            refused("#", 0, 0);
            refused(times(" ", 399) + "#", 399, 0);
        });
        said(5, "Of one place the least", () -> {
            String sixty = "climb 1" + times("+1", 59);
            refused(sixty + "+123456", 126, 1);
            refused(sixty + "+x", 126, 0);
            refused(sixty + "+", 126, 0);
            refused(sixty + "<1", 125, 0);
            refused(times("climb 1;", 12) + "climbs", 96, 0);
            refused("climb 1 123456", 8, 0);
            refused("climb 1 if " + times("[", 10) + "nots", 21, 0);
        });
    }

    private static void reading() {
        said(5, "The TAPE, which is empty then, is a RULE: its number", () -> {
            LadderLand x = new LadderLand();
            for (int i = 0; i < 6; i++) {
                Bytes.put(x, times("climb 1;", i) + "climb 2");
                is("number", x.rule(), i);
                is("the tape", x.count(12), 0);
                is("rules", x.count(4), i + 1);
                is("none in force by it", x.count(5), NONE);
            }
        });
        said(5, "RULES 0 to 5", () -> {
            LadderLand x = with("ladder 3;person 1 1 9 1", "climb 0", "climb 1", "climb 0-1", "climb 0", "climb 1", "climb 0-1");
            for (int i = 0; i < 6; i++) {
                x.force(i);
                is("rule " + i, x.ahead(0, 1, 0), new int[] {1, 2, 0}[i % 3]);
            }
        });
        said(5, "-2 - its FAULT", () -> {
            for (String text : new String[] {"", "climb", "climb 123456", "climb 1 if " + times("[", 11), "climb 1" + times("+1", 60),
                times("climb 1;", 12) + "climb 1"}) {
                unchangedBy(text, Scenes::lived);
                unchangedBy(text, Scenes::told);
                unchangedBy(text, Scenes::fresh);
                unchangedBy(text, Scenes::untold);
            }
            is("at the first byte", ruleOf("x"), -3);
            is("and kind", ruleOf("123456"), -3);
            is("further on", ruleOf("climb 123456"), -2 - (1 + 8 * 6 + 1));
        });
        said(5, "NONE, and nothing happens: there are 6", () -> {
            leaves("of a full tape", Scenes::full, LadderLand::rule, NONE);
            for (String text : new String[] {"climb 1", "", "climb", "climb 123456"}) {
                leaves("a seventh: " + text, () -> withTape(Scenes.full(), text), LadderLand::rule, NONE);
                is("the tape stays", withTape(Scenes.full(), text).count(12), text.length());
            }
        });
    }

    private static LadderLand withTape(LadderLand x, String text) {
        Bytes.put(x, text);
        return x;
    }

    private static void unchangedBy(String text, Supplier<LadderLand> scene) {
        leaves("fault in " + text, () -> withTape(scene.get(), ""), x -> {
            Bytes.put(x, text);
            is("below -2", x.rule() < -2, true);
            return x.count(12);
        }, 0);
    }

    // ---- what a rule wills

    /** On rung 1 of three, alone: 1 up, -1 down, 0 nothing. */
    private static int wills(String rule) {
        return ruledBy("ladder 3;person 1 3 9 1", rule).ahead(0, 1, 0) - 1;
    }

    /** On rung 2 of three, where above is -1, and rung 1 is free: 0 nothing (or up), -1 down. */
    private static int willsAtTop(String rule) {
        return ruledBy("ladder 3;person 2 3 9 2", rule).ahead(0, 1, 0) - 2;
    }

    private static void sums() {
        said(5, "(0 without) is above 0, below 0, or 0", () -> {
            is("1", wills("climb 1"), 1);
            is("0", wills("climb 0"), 0);
            is("-1", wills("climb 0-1"), -1);
            is("beyond 32 bits", wills("climb 65536*65536"), 1);
            is("below them", wills("climb 0-65536*65536"), -1);
            is("the highest", wills("climb " + LOWEST + "-1"), 1);
            is("the lowest", wills("climb " + LOWEST), -1);
            is("no clause whose test holds", wills("climb 1 if 1=2;climb 0-1 if 1>1"), 0);
            is("the first without a test", wills("climb 1 if 1=2;climb 0-1;climb 1"), -1);
            is("the first whose test holds", wills("climb 1 if 1=2;climb 0-1 if 1=1;climb 1"), -1);
            is("a sum of 0 is one, too", wills("climb 0 if 1=1;climb 1"), 0);
            is("the twelfth", wills(times("climb 1 if 1=2;", 11) + "climb 0-1"), -1);
        });
        said(5, "/ is towards 0, % its rest, both 0 by 0", () -> {
            is("7/2", wills("climb 7/2-3"), 0);
            is("-7/2", willsAtTop("climb 0-1 if 7*above/2=0-3"), -1);
            is("7/-1", willsAtTop("climb 0-1 if 7/above=0-7"), -1);
            is("1/2", wills("climb 1/2"), 0);
            is("7%2", wills("climb 7%2-1"), 0);
            is("-7%2", willsAtTop("climb 0-1 if 7*above%2=0-1"), -1);
            is("7%-1", willsAtTop("climb 0-1 if 7%above=0"), -1);
            is("7/0", wills("climb 7/0"), 0);
            is("7%0", wills("climb 7%0"), 0);
            is("0/0", wills("climb 0/0"), 0);
            is("0%0", wills("climb 0%0"), 0);
            is("by a word that is 0", wills("climb 1+7/here+7%hour"), 1);
        });
        said(5, "all goes round in 64 bits", () -> {
            is("the lowest less 1 is the highest", wills("climb " + LOWEST + "-1"), 1);
            is("and 1 more the lowest", wills("climb " + LOWEST + "-1+1"), -1);
            is("0 less the lowest", wills("climb 0-" + LOWEST), -1);
            is("the lowest twice", wills("climb " + LOWEST + "+" + LOWEST), 0);
            is("2 to the 64th", wills("climb 65536*65536*65536*65536"), 0);
            is("and 1", wills("climb 65536*65536*65536*65536+1"), 1);
            is("2 to the 64th less 2 to the 48th", wills("climb 65536*65536*65536*65535"), -1);
            is("the lowest by -1", willsAtTop("climb " + LOWEST + "/above"), -1);
            is("its rest by -1", willsAtTop("climb 0-1-" + LOWEST + "%above"), -1);
            is("and that is 0", willsAtTop("climb " + LOWEST + "%above"), 0);
            is("the lowest times -1", willsAtTop("climb " + LOWEST + "*above"), -1);
        });
    }

    private static int holds(String test) {
        int yes = wills("climb 1 if " + test);
        is("not " + test, wills("climb 1 if not[" + test + "]"), 1 - yes);
        return yes;
    }

    private static void tests() {
        said(5, "SUM SIGN SUM", () -> {
            String[] signs = {"<", "<=", "=", ">=", ">"};
            int[][] due = {{1, 1, 0, 0, 0}, {0, 1, 1, 1, 0}, {0, 0, 0, 1, 1}};
            String[][] pairs = {{"1", "2"}, {"2", "2"}, {"2", "1"}, {"0-1", "0"}, {"0", "0-0"}, {"0", "0-1"}, {LOWEST, LOWEST + "-1"},
                {LOWEST, LOWEST}, {LOWEST + "-1", LOWEST}};
            for (int i = 0; i < pairs.length; i++) {
                for (int s = 0; s < signs.length; s++) {
                    String test = pairs[i][0] + signs[s] + pairs[i][1];
                    is(test, holds(test), due[i % 3][s]);
                }
            }
        });
        said(5, "TEST: PART { or PART }. PART: FACT { and FACT }", () -> {
            String[] fact = {"1=2", "1=1"};
            for (int bits = 0; bits < 8; bits++) {
                boolean a = (bits & 4) != 0;
                boolean b = (bits & 2) != 0;
                boolean c = (bits & 1) != 0;
                String fa = fact[bits >> 2];
                String fb = fact[bits >> 1 & 1];
                String fc = fact[bits & 1];
                is("or and " + bits, holds(fa + " or " + fb + " and " + fc), bit(a || b && c));
                is("and or " + bits, holds(fa + " and " + fb + " or " + fc), bit(a && b || c));
                is("or or " + bits, holds(fa + " or " + fb + " or " + fc), bit(a || b || c));
                is("and and " + bits, holds(fa + " and " + fb + " and " + fc), bit(a && b && c));
                is("[or] and " + bits, holds("[" + fa + " or " + fb + "] and " + fc), bit((a || b) && c));
                is("not and " + bits, holds("not " + fa + " and " + fb + " or " + fc), bit(!a && b || c));
                is("and not " + bits, holds(fa + " and not " + fb + " or not " + fc), bit(a && !b || !c));
            }
            is("ten deep", wills("climb 1 if " + times("[1=2 or ", 10) + "1=1" + times("]", 10)), 1);
            is("ten nots", wills("climb 1 if " + times("not ", 10) + "1=1"), 1);
            is("nine", wills("climb 1 if " + times("not ", 9) + "1=1"), 0);
        });
        said(5, "SUM: TERM { (+ or -) TERM }. TERM: VALUE { (* or / or %) VALUE }", () -> {
            is("from the left", holds("5-3-2=0 and 5-3+2=4 and 2+3-5=0"), 1);
            is("terms first", holds("1+2*3=7 and 2*3+1=7 and 7-6/2=4 and 7-7%4=4"), 1);
            is("terms from the left", holds("8/4/2=1 and 8/4*2=4 and 9%5*2=8 and 9*5%2=1 and 20%7/2=3"), 1);
        });
    }

    private static void words() {
        said(5, "here (others on their RUNG), above (PEOPLE on the RUNG they would step up to; -1 without one), below (likewise down)",
            () -> {
                LadderLand x = ruledBy("ladder 5;rung 2 4 9;broken 1;person 2 1 9 0;person 2 1 9 0;person 2 1 9 0;person 0 1 9 0",
                    "climb 1 if person=3 and here=0 and above=3 and below=0-1 or person<3 and here=2 and above=0 and below=1");
                is("all of them climb, but who finds no room", x.hour() * 10000 + stands(x, 4), 3322);
                LadderLand y = ruledBy("ladder 5;broken 1;broken 2;person 0 1 9 0;person 4 1 9 0;person 3 1 9 0",
                    "climb 1 if person=0 and above=0-1;climb 0-1 if person=1 and above=0-1 and below=1;climb 1 if person=2 and below=0-1");
                is("no rung beyond two broken ones: nothing, down, and a way", y.hour() * 1000 + stands(y, 3), 34);
            });
        said(5, "of a PERSON: person, rung, want, weight, grip", () -> {
            String two = "ladder 9;person 0 20 30 8;person 8 1 1 0";
            String climbs = "climb 1 if person=0 and rung=0 and want=8 and weight=20 and grip=30 and told=30 or person=1 and rung=8";
            is("the first, of all the most", ruledBy(two, climbs).ahead(0, 1, 0), 1);
            String falls = "climb 0-1 if person=1 and rung=8 and want=0 and weight=1 and grip=1 and told=1 and here=0 and above=0-1";
            is("the last, of all the least", ruledBy(two, falls).ahead(1, 1, 2), 1);
            is("four of them", ruledBy("ladder 3;rung 1 4 99" + times(";person 1 1 9 1", 4), "climb person-2").hour() * 10000
                + stands(ruledBy("ladder 3;rung 1 4 99" + times(";person 1 1 9 1", 4), "climb person-2"), 4), 1111);
        });
        said(5, "told (their GRIP as the text told it)", () -> {
            LadderLand x = ruledBy("ladder 9;person 0 1 9 8", "climb 1 if told=9 and grip=9-hour");
            live(x, 3);
            is("told stays, grip goes", x.person(0, 0) * 10 + x.person(0, 2), 36);
        });
        said(5, "slips (how often they SLIPPED so far)", () -> {
            LadderLand x = ruledBy("ladder 5;person 3 1 9 0", "climb 0;climb 1", "climb slips-1");
            is("0 so far", x.ahead(0, 1, 0), 2);
            x.cut(3);
            is("1", x.ahead(0, 1, 0), 2);
            x.cut(2);
            is("2: up over two broken ones is no way", x.ahead(0, 1, 0), 1);
            x.mend(2);
            is("2: up", x.ahead(0, 1, 0), 2);
        });
        said(5, "worn (their RUNG), strength (of it)", () -> {
            LadderLand x = ruledBy("ladder 3;rung 1 2 999;rung 0 2 77;person 0 20 30 0;person 1 1 30 0",
                "climb 1 if worn=40 and strength=77;climb 0-1 if worn=2 and strength=999");
            live(x, 2);
            is("after two hours", stands(x, 2), 1);
            is("each goes by their own", x.hour() * 10 + stands(x, 2), 10);
        });
        said(5, "as the word hour and HOURS told do", () -> {
            LadderLand x = ruledBy("ladder 3;person 0 1 9 0", "climb 1 if hour=0 or hour=100");
            is("at 0", x.ahead(0, 1, 0), 1);
            is("not at 99", x.ahead(0, 100, 0), 1);
            live(x, 1);
            is("but at 100", x.ahead(0, 100, 0), 2);
        });
    }
}
