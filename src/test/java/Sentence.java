/** One test of one sentence of the document. */
final class Sentence {
    /** The promises under which Document keeps the sentences of "Terms" and of "What it is". */
    static final int TERMS = 0;
    static final int WHAT_IT_IS = -1;

    private Sentence() {
    }

    /** Runs the lines as a Script, on a new object, for the sentence that has these words. */
    static void holds(int promise, String words, String lines) {
        Document.quote(promise, words);
        Script.run(name(promise, words), lines);
    }

    /** As holds for several ways to say a call, each with IT in the lines. */
    static void holdsForEach(int promise, String words, String lines, String... calls) {
        for (String call : calls) {
            holds(promise, words, lines.replace("IT", call));
        }
    }

    static String name(int promise, String words) {
        String where = promise == TERMS ? "terms" : promise == WHAT_IT_IS ? "what it is" : "promise " + promise;
        return where + ", \"" + words + "\"";
    }
}
