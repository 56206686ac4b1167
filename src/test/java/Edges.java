/** Ties each sentence of the document that names an edge to a test of its own. */
final class Edges {
    interface Test {
        void run(Check check);
    }

    private final Check check;
    private final Sentences document;

    Edges(Check check, Sentences document) {
        this.check = check;
        this.document = document;
    }

    /** The words stand in just one sentence of this part of the document; the test looks at what they say. */
    void edge(String part, String words, Test test) {
        check.about(part + ", " + words);
        check.due("sentences that hold these words", 1, document.claim(part, words));
        int before = check.looked();
        test.run(check);
        check.due("a test that looks at something", 1, check.looked() > before ? 1 : 0);
    }

    /** Sentences that name no edge, or tell only what others of the same part tell with their edges. */
    void plain(String part, String... words) {
        for (String each : words) {
            check.about(part + ", " + each);
            check.due("sentences that hold these words", 1, document.claim(part, each));
        }
    }

    void end() {
        check.about("the whole document");
        check.text("sentences without a test", "none", document.unclaimed());
    }
}
