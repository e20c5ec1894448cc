import java.io.IOException;
import java.nio.file.Path;

/** Tests by sentence: each one tells the sentence of the document that it holds the class to. */
abstract class Sentences extends Checks {
    private static Document document;
    private static String under = "";

    static void open(String[] args) throws IOException {
        Path root = Path.of(args.length > 0 ? args[0] : ".");
        document = new Document(root.resolve("../shared/DOC.md"));
    }

    /** The heading of the document under which the next sentences stand. */
    static void under(String wanted) {
        under = wanted;
        heading = wanted;
        due("the heading in the document", document.under(wanted) ? "there" : "not there", "there");
    }

    static void says(String sentence) {
        heading = under + " \"" + sentence + "\"";
        due("the sentence in the document", document.says(sentence) ? "there" : "not there", "there");
    }

    /** A sentence that names no boundary case: Promises and AgainstModel hold the class to it. */
    static void namesNone(String sentence) {
        says(sentence);
    }

    static void allNamed(String wanted) {
        heading = wanted;
        due("what no test names", document.unnamed(wanted), "");
    }
}
