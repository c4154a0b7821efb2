/** What an object shows, as a text that can be held against another one. Each takes fewer than 200 calls. */
final class Sight {
    private Sight() {
    }

    /** By calls that change nothing. */
    static String of(LadderLand x) {
        StringBuilder s = new StringBuilder();
        put(s, "count", counts(x));
        for (int p = 0; p < 4; p++) {
            int[] all = new int[8];
            for (int what = 0; what < 7; what++) {
                all[what] = x.person(p, what);
            }
            all[7] = x.ahead(p, 3, 0);
            put(s, "person" + p, all);
        }
        for (int r = 0; r < 9; r++) {
            int[] all = new int[6];
            for (int what = 0; what < 6; what++) {
                all[what] = x.rung(r, what);
            }
            put(s, "rung" + r, all);
        }
        put(s, "foreseen", x.breaks(0), x.breaks(1), x.mending(0), x.mending(1), x.goods(0, 1), x.stand(0, 7));
        put(s, "ways", x.moves(1), x.moves(3), x.move(3, 0, 1), x.squeeze(3), x.capital(), x.ballot(), x.hold(2, 0), x.hold(2, 1));
        put(s, "ruled", x.ruled(0), x.ruled(1), x.look(1, 0), x.look(1, 1), x.years(2, 3, 50, 0), x.years(2, 3, 50, 1));
        return s.toString();
    }

    /** By calls that change all: act by act undone, image by image gone back to, the tape read. */
    static String rest(LadderLand x) {
        StringBuilder s = new StringBuilder();
        for (int i = 0; i < 21; i++) {
            put(s, "undo", x.undo(), x.count(6), x.count(8), x.count(3), x.person(0, 0), x.person(1, 3));
        }
        put(s, "force", x.force(LadderLand.NONE), x.force(0));
        put(s, "tape", x.ladder(), x.count(0), x.count(1));
        for (int k = 0; k < 4; k++) {
            put(s, "back", x.back(k), x.count(0), x.count(3), x.count(5), x.count(8), x.count(9), x.count(11), x.person(0, 0),
                x.ruled(0));
        }
        return s.toString();
    }

    /** What an act can change, but for how many can be undone; in 27 calls. */
    static String brief(LadderLand x) {
        StringBuilder s = new StringBuilder();
        put(s, "count", x.count(2), x.count(3), x.count(6), x.count(7), x.count(8));
        for (int p = 0; p < 4; p++) {
            put(s, "person" + p, x.person(p, 0), x.person(p, 2), x.person(p, 3), x.person(p, 4));
        }
        put(s, "worn", x.rung(0, 2), x.rung(1, 2), x.rung(2, 2), x.rung(3, 2), x.rung(4, 2), x.rung(5, 2));
        return s.toString();
    }

    static int[] counts(LadderLand x) {
        int[] all = new int[13];
        for (int what = 0; what < all.length; what++) {
            all[what] = x.count(what);
        }
        return all;
    }

    private static void put(StringBuilder s, String name, int... all) {
        s.append(name);
        for (int n : all) {
            s.append(' ').append(n);
        }
        s.append("; ");
    }
}
