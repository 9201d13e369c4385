/** A test for each sentence of the document that names an edge, told by the sentence's own words. */
abstract class Edges extends Checks {
    private static final Document DOCUMENT = Document.read();

    static void edge(String section, String words, Runnable test) {
        promise = section + ", \"" + words + "\"";
        if (!DOCUMENT.quote(section, words)) fail("the document has no such words there");
        int before = looks;
        test.run();
        if (looks == before) fail("nothing was looked at");
    }

    static void lookForUnquoted() {
        promise = "the document";
        for (String row : DOCUMENT.unquoted()) fail("an edge without a test: " + row);
    }
}
