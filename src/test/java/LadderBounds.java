/** Promise 4: what a ladder's text may be, sentence by sentence, and what reading it changes. */
final class LadderBounds extends Bounds {
    private LadderBounds() {
    }

    static void all() {
        clauses();
        rungs();
        people();
        faults();
        reading();
    }

    private static void taken(String text, int people) {
        is("taken: " + text, ladderOf(text), people);
    }

    private static void refused(String text, int place, int kind) {
        is("refused: " + text, ladderOf(text), fault(place, kind));
    }

    /** The number behind a text, with what follows it: the last that are taken, the first that are not. */
    private static void range(String ahead, String behind, int least, int most, int people) {
        taken(ahead + least + behind, people);
        taken(ahead + most + behind, people);
        refused(ahead + (most + 1) + behind, ahead.length(), 1);
        if (least > 0) {
            refused(ahead + (least - 1) + behind, ahead.length(), 1);
        }
        refused(ahead + "99999" + behind, ahead.length(), 1);
    }

    private static void clauses() {
        said(4, "A LADDER is a text of at most 400 bytes", () -> {
            taken("ladder 3" + times(" ", 392), 0);
            String long400 = "ladder 3;" + times(" ", 375) + "person 2 1 1 0  ";
            is("as long as can be", long400.length(), 400);
            taken(long400, 1);
            LadderLand x = with("ladder 3;" + times(" ", 377) + "person 2 1 1 0");
            is("to the last byte", x.person(0, 3), 0);
            refused(times(" ", 400), 400, 0);
        });
        said(4, "CLAUSE { ; CLAUSE }, 40 at most", () -> {
            taken("ladder 9" + times(";broken1", 39), 0);
            refused("ladder 9" + times(";broken1", 40), 8 + 8 * 39 + 1, 4);
            String forty = "ladder 9" + times(";broken1", 39);
            refused(forty + ";rung 0 1 1", forty.length() + 1, 4);
            refused(forty + "; person 0 1 1 0", forty.length() + 2, 4);
            refused(forty + ";ladder 9", forty.length() + 1, 4);
            refused(forty + ";", forty.length() + 1, 0);
            refused(forty + ";no", forty.length() + 1, 0);
        });
        said(4, "RUNGS 3 to 9, 0 the lowest", () -> {
            range("ladder ", "", 3, 9, 0);
            range("ladder ", ";broken 0", 3, 9, 0);
            refused("ladder 0", 7, 1);
            LadderLand x = with("ladder 3;person 0 1 1 2");
            is("nothing is below 0", x.person(0, 6), NONE);
            is("three of them", x.count(0), 3);
            is("nine of them", with("ladder 9").count(0), 9);
        });
        said(4, "once, the first CLAUSE", () -> {
            refused("ladder 3;ladder 3", 9, 4);
            refused("rung 0 1 1", 0, 4);
            refused("  broken 0", 2, 4);
            refused("person 0 1 1 0;ladder 3", 0, 4);
            refused(";ladder 3", 0, 0);
        });
    }

    private static void rungs() {
        said(4, "a RUNG; its ROOM 1 to 4", () -> {
            range("ladder 3;rung ", " 1 1", 0, 2, 0);
            range("ladder 9;rung ", " 1 1", 0, 8, 0);
            range("ladder 3;rung 2 ", " 1", 1, 4, 0);
        });
        said(4, "not fewer than stand on it so far", () -> {
            for (int on = 1; on <= 4; on++) {
                String text = "ladder 3;rung 1 4 9" + times(";person 1 1 1 0", on) + ";rung 1 ";
                if (on > 1) {
                    refused(text + (on - 1) + " 9", text.length(), 1);
                }
                taken(text + on + " 9", on);
                refused(text + "0 9", text.length(), 1);
            }
            taken("ladder 3;rung 1 1 9;person 1 1 1 0", 1);
            taken("ladder 3;person 1 1 1 0;person 1 1 1 0;rung 0 1 9", 2);
        });
        said(4, "its STRENGTH 1 to 999", () -> range("ladder 3;rung 1 2 ", "", 1, 999, 0));
        said(4, "of one the last told, 2 and 200 without", () -> {
            LadderLand x = with("ladder 3;rung 1 4 999;rung 1 1 1;rung 2 1 1;rung 2 4 999");
            is("room without", x.rung(0, 0), 2);
            is("strength without", x.rung(0, 1), 200);
            is("the last told", x.rung(1, 0) * 1000 + x.rung(1, 1), 1001);
            is("of each", x.rung(2, 0) * 1000 + x.rung(2, 1), 4999);
        });
        said(4, "a RUNG on which nobody stands so far", () -> {
            range("ladder 3;broken ", "", 0, 2, 0);
            range("ladder 9;broken ", "", 0, 8, 0);
            refused("ladder 3;person 1 1 1 0;broken 1", 31, 1);
            taken("ladder 3;person 1 1 1 0;broken 0;broken 2", 1);
            taken("ladder 3;broken 0;broken 1;broken 2", 0);
            taken("ladder 3;broken 0;broken 0", 0);
        });
    }

    private static void people() {
        said(4, "a RUNG, not BROKEN, with ROOM by what was told so far", () -> {
            range("ladder 3;person ", " 1 1 0", 0, 2, 1);
            range("ladder 9;person ", " 1 1 0", 0, 8, 1);
            refused("ladder 3;broken 1;person 1 1 1 0", 25, 1);
            taken("ladder 3;broken 1;person 2 1 1 0", 1);
            for (int room = 1; room <= 3; room++) {
                String text = "ladder 3;rung 1 " + room + " 9" + times(";person 1 1 1 0", room);
                taken(text, room);
                refused(text + ";person 1 1 1 0", text.length() + 8, 1);
                taken(text + ";rung 1 4 9;person 1 1 1 0", room + 1);
                refused(text + ";person 1 1 1 0;rung 1 4 9", text.length() + 8, 1);
            }
            taken("ladder 3;rung 1 4 9" + times(";person 1 1 1 0", 4), 4);
            String two = "ladder 3" + times(";person 1 1 1 0", 2);
            taken(two, 2);
            refused(two + ";person 1 1 1 0", two.length() + 8, 1);
        });
        said(4, "WEIGHT 1 to 20", () -> range("ladder 3;person 1 ", " 1 0", 1, 20, 1));
        said(4, "GRIP 1 to 30", () -> range("ladder 3;person 1 1 ", " 0", 1, 30, 1));
        said(4, "the RUNG they WANT", () -> {
            range("ladder 3;person 1 1 1 ", "", 0, 2, 1);
            range("ladder 9;person 1 1 1 ", "", 0, 8, 1);
            taken("ladder 3;broken 2;person 1 1 1 2", 1);
            taken("ladder 3;person 2 1 1 2", 1);
        });
        said(4, "PEOPLE 0 to 3, in the order told", () -> {
            taken("ladder 3", 0);
            String four = "ladder 9;person 4 1 1 0;person 3 2 1 0;person 2 3 1 0;person 1 4 1 0";
            taken(four, 4);
            refused(four + ";person 0 5 1 0", four.length() + 1, 4);
            refused(four + ";  person", four.length() + 3, 4);
            LadderLand x = with(four);
            is("in the order told", x.person(0, 1) * 1000 + x.person(1, 1) * 100 + x.person(2, 1) * 10 + x.person(3, 1), 1234);
            is("their rungs", stands(x, 4), 4321);
        });
        said(4, "It is HOUR 0; nothing is WORN", () -> {
            LadderLand x = with("ladder 3;person 0 20 1 0");
            is("hour and worn", x.count(6) + x.count(8), 0);
        });
    }

    private static void faults() {
        said(4, "1 to 5 digits, as far as digits go on", () -> {
            taken("ladder 00003;person 00002 00020 00030 00000", 1);
            refused("ladder 000003", 7, 1);
            refused("ladder 3;person 000000 1 1 0", 16, 1);
            refused("ladder 3;person 0 1 1 000000", 22, 1);
            refused("ladder 99999", 7, 1);
            refused("ladder " + times("1", 393), 7, 1);
        });
        said(4, "Blanks (32) stand between as one likes", () -> {
            taken("ladder3;rung0 1 1;broken1;person0 1 1 2", 1);
            taken("   ladder   3   ;   person   0   1   1   0   ", 1);
            for (char c : new char[] {0, 9, 10, 13, 31, 33, 160, 255}) {
                refused("ladder" + c + "3", 6, 0);
            }
            refused("lad der 3", 0, 0);
        });
        said(4, "0 a byte or WORD that can't stand there, or the end (behind the last byte)", () -> {
            String text = "ladder 3;rung 0 1 5;broken 1;person 0 7 9 2";
            for (int n = 0; n <= text.length(); n++) {
                boolean whole = n == 8 || n == 19 || n == 28 || n == 43;
                int due = whole ? n / 43 : fault(startOfWord(text, n), 0);
                is("as far as " + n, ladderOf(text.substring(0, n)), due);
            }
            for (int b = 0; b < 256; b++) {
                char c = (char) b;
                int due = c == ' ' ? 0 : c == ';' ? fault(9, 0) : c >= '0' && c <= '9' ? fault(7, 1) : fault(8, 0);
                is("byte " + b + " behind a clause", ladderOf("ladder 3" + c), due);
                boolean letter = c >= 'a' && c <= 'z';
                due = c >= '3' && c <= '9' ? 0 : c >= '0' && c <= '9' ? fault(7, 1) : c == ' ' ? fault(8, 0) : fault(7, 0);
                is("byte " + b + " for a number", ladderOf("ladder " + c), due);
                due = letter ? fault(0, 0) : c == ' ' ? fault(7, 0) : c >= '0' && c <= '9' ? c < '3' ? fault(6, 1) : 0 : fault(6, 0);
                is("byte " + b + " behind a word", ladderOf("ladder" + c), due);
            }
            refused("ladder 3;climb 1", 9, 0);
            refused("ladder 3;people 1", 9, 0);
            refused("ladder 3 ;person 1 1 1 0 0", 25, 0);
        });
        said(4, "FAULTS, the first along the text", () -> {
            refused("ladder 3;rung 9 1 1;ladder;", 14, 1);
            refused("ladder 3;ladder 99;#", 9, 4);
            refused("ladder 2#", 7, 1);
            refused("ladder 3;person 0 1 1 9;x", 22, 1);
        });
        said(4, "Of one place the least", () -> {
            String forty = "ladder 9" + times(";broken1", 39);
            refused(forty + ";rungs", forty.length() + 1, 0);
            refused("ladder 3;rung 1 1 1 123456", 20, 0);
            refused("rungs 1", 0, 0);
            refused("", 0, 0);
        });
    }

    /** Where the word begins that a text ends in, if it is not whole; else the end. */
    private static int startOfWord(String text, int n) {
        int start = n;
        while (start > 0 && Character.isLetter(text.charAt(start - 1))) {
            start--;
        }
        boolean whole = n == start || n < text.length() && !Character.isLetter(text.charAt(n));
        return whole ? n : start;
    }

    private static void reading() {
        said(4, "The TAPE, which is empty then, is the LADDER in place of the one there was", () -> {
            LadderLand x = Scenes.lived();
            is("people", x.ladder(), 1);
            is("the tape", x.count(12), 0);
            is("four rungs", x.count(0), 4);
            is("broken as told", x.count(3), 8);
            is("nobody fell", x.count(2), 1);
            is("worn, slips", x.count(8) + x.count(7), 0);
            is("room without, again", x.rung(2, 0) * 1000 + x.rung(2, 1), 2200);
            is("grip as told", x.person(0, 2), 1);
        });
        said(4, "in place of the one there was", () -> {
            String text = "ladder 3;rung 0 4 60;rung 1 1 5;broken 2" + times(";person 0 20 9 2", 4);
            LadderLand x = with(text);
            x.hour();
            x.mend(2);
            x.cut(1);
            is("all have fallen, one of them from rung 1", x.count(2) * 100 + x.count(7), 5);
            for (int i = 0; i < 3; i++) {
                Bytes.put(x, text);
                is("the same once more", x.ladder(), 4);
                is("nobody fell", x.count(2) * 100 + x.count(7), 1500);
                is("worn, broken", x.count(8) * 10 + x.count(3), 4);
                is("hour", x.count(6), 0);
                live(x, 1 + i);
            }
        });
        said(4, "HOUR 0, no NOTES, nothing to be UNDONE; the RULE IN FORCE, x, IMAGES stay", () -> {
            LadderLand x = Scenes.full();
            is("much was there", x.count(6) * 10000 + x.count(9) * 100 + x.count(10), 241020);
            is("people", x.ladder(), 0);
            is("hour, notes, acts", x.count(6) + x.count(9) + x.count(10), 0);
            is("nothing to be undone", x.undo(), NONE);
            is("the rule in force", x.count(5), 5);
            is("the rules", x.count(4), 6);
            is("x", x.count(11), MAX);
            for (int k = 0; k < 4; k++) {
                is("image " + k, x.back(k), 6 * k);
                is("with the ladder there was", x.count(0) * 10 + x.count(1), 94);
            }
        });
        said(4, "how many PEOPLE", () -> {
            for (int people = 0; people <= 4; people++) {
                taken("ladder 3;rung 0 4 1" + times(";person 0 1 1 0", people), people);
            }
        });
        said(4, "-2 - its FAULT (the TAPE is empty then, too), and all else stays", () -> {
            String[] wrong = {"", "ladder", "ladder 2", "ladder 9;ladder 9", "ladder 3;rung 0 2 7;person 1 1 1 9",
                "ladder 9" + times(";broken1", 40), "ladder 3;broken 1;person 2 2 2 0;#"};
            for (String text : wrong) {
                unchangedBy(text, Scenes::lived);
                unchangedBy(text, Scenes::full);
                unchangedBy(text, Scenes::fresh);
                unchangedBy(text, Scenes::untold);
            }
        });
    }

    private static void unchangedBy(String text, java.util.function.Supplier<LadderLand> scene) {
        leaves("fault in " + text, () -> emptied(scene.get()), x -> {
            Bytes.put(x, text);
            is("below -2", x.ladder() < -2, true);
            return x.count(12);
        }, 0);
    }

    private static LadderLand emptied(LadderLand x) {
        x.end(0);
        return x;
    }
}
