import java.io.IOException;
import java.nio.file.Path;

/** Tests each of which is about one sentence of the document, quoted as it stands there. */
abstract class Edges extends Sheet {
    private static Document document;

    static void openDocument() throws IOException {
        document = new Document(Path.of(System.getProperty("hallshells.document", "../shared/DOC.md")));
    }

    /** The tests that follow are about this sentence, of a promise by number or of the terms. */
    static void sentence(int number, String words) {
        String key = Document.key(number, words);
        about(key);
        must(document.has(key), "there is no such sentence");
        document.count(key);
    }

    static void closeDocument() {
        about("the document");
        for (String key : document.untested()) {
            must(false, "no test is about " + key);
        }
        end("each of " + document.size() + " sentences holds");
    }
}
