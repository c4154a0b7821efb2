/** Texts as the numbers that feed takes. */
final class Bytes {
    private Bytes() {
    }

    /** Five numbers for each twenty bytes, the rest filled with 0. */
    static int[][] pieces(String text) {
        int[][] all = new int[(text.length() + 19) / 20][5];
        for (int i = 0; i < text.length(); i++) {
            all[i / 20][i % 20 / 4] |= (text.charAt(i) & 255) << 24 - 8 * (i % 4);
        }
        return all;
    }

    /** Puts a text on an empty tape. */
    static void put(LadderLand x, String text) {
        x.end(0);
        for (int[] p : pieces(text)) {
            x.feed(p[0], p[1], p[2], p[3], p[4]);
        }
        x.end(text.length());
    }
}
