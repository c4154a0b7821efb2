import java.io.IOException;
import java.nio.charset.StandardCharsets;
import java.nio.file.Files;
import java.nio.file.Path;
import java.util.ArrayList;
import java.util.List;
import java.util.regex.Matcher;
import java.util.regex.Pattern;

/**
 * The document's sentences that the boundary tests quote. What is quoted must stand in the promise or in the
 * Terms, word by word; and what a promise says must be quoted, piece by piece.
 */
final class Sayings {
    private static final int PROMISES = 34;
    /** Ends of pieces: a promise's sentences and half sentences. */
    private static final String ENDS = "; |\\. |\\.$";
    /** Pieces of the Terms are smaller, since a sentence there holds many bounds. */
    private static final String TERM_ENDS = "; |\\. |\\.$|: |\\| |\\(|\\)";
    private static final Pattern BOUND =
        Pattern.compile("\\d|at most|at least|least|none|NONE|never|without|more|first|latest|nothing|however|round|towards");

    private static final Path DOCUMENT = Path.of("../shared/DOC.md");

    private final boolean isThere = Files.exists(DOCUMENT);
    private final String terms;
    private final String[] promises = new String[PROMISES + 1];
    private final List<List<String>> quoted = new ArrayList<>();

    Sayings() throws IOException {
        String all = isThere ? Files.readString(DOCUMENT, StandardCharsets.UTF_8) : "";
        if (!isThere) {
            System.out.println("no document at " + DOCUMENT + ": what is quoted is not looked up");
        }
        terms = plain(between(all, "## Terms", "The constants:"));
        for (int n = 0; n <= PROMISES; n++) {
            quoted.add(new ArrayList<>());
        }
        for (int n = 1; n <= PROMISES; n++) {
            String heading = "## Promise " + n + ":";
            promises[n] = plain(between(all, heading, n < PROMISES ? "## Promise " + (n + 1) + ":" : "## Not promised"));
        }
    }

    private static String between(String all, String from, String to) {
        int start = all.indexOf(from);
        int stop = all.indexOf(to, Math.max(0, start));
        return start < 0 || stop < 0 ? "" : all.substring(start + from.length(), stop);
    }

    private static String plain(String text) {
        return text.replace("```text", " ").replace("```", " ").replace("`", "").replaceAll("\\s+", " ").trim();
    }

    /** Whether the document says so. */
    boolean quote(int promise, String sentence) {
        quoted.get(promise).add(sentence);
        return !isThere || promises[promise].contains(sentence) || terms.contains(sentence);
    }

    /** What no test quotes: each piece of each promise, and each piece of the Terms that tells a bound. */
    List<String> unquoted() {
        List<String> left = new ArrayList<>();
        for (int n = 1; n <= PROMISES; n++) {
            for (String piece : signature(promises[n]).split(ENDS)) {
                if (!piece.isBlank() && !isQuoted(quoted.get(n), piece.trim())) {
                    left.add("promise " + n + ": " + piece.trim());
                }
            }
        }
        List<String> all = new ArrayList<>();
        quoted.forEach(all::addAll);
        for (String piece : terms.split(TERM_ENDS)) {
            Matcher bound = BOUND.matcher(piece);
            if (bound.find() && !isQuoted(all, piece.trim())) {
                left.add("Terms: " + piece.trim());
            }
        }
        return left;
    }

    /** Without the heading and the face of the call, which stand ahead of the first ": ". */
    private static String signature(String promise) {
        int end = promise.indexOf("): ");
        return end < 0 ? promise : promise.substring(end + 3);
    }

    private static boolean isQuoted(List<String> quotes, String piece) {
        for (String quote : quotes) {
            if (quote.contains(piece) || piece.contains(quote)) {
                return true;
            }
        }
        return false;
    }
}
