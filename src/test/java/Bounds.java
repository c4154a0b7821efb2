/** What the parts of BoundaryTests share: tests that are named by a promise and a sentence of the document. */
abstract class Bounds extends Check {
    private static Sayings sayings;
    private static int tests = 0;

    static void begin(Sayings document) {
        sayings = document;
    }

    /** One sentence of a promise, or of the Terms that it rests on, and its test. */
    static void said(int promise, String sentence, Runnable test) {
        tests++;
        place("promise " + promise + ", \"" + sentence + "\"");
        is("the document says so", sayings.quote(promise, sentence), true);
        test.run();
    }

    static int saidSoFar() {
        return tests;
    }
}
