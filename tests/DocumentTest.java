import java.util.ArrayList;
import java.util.List;

/**
 * Each sentence of the document, from its first line to its last, is quoted by a test: runs all
 * tests that quote some, and looks which words are left. Arguments: the source's path, the
 * document's path.
 */
public final class DocumentTest {
    /** What bears a part's name, or frees the class of something: no answer can hold it. */
    private static final String[] NO_PROMISE = {
        "# HiredByLonging ## What it is ", " ==== I. ", "; what later calls answer is free. ", " ## Terms ",
        " ```text ", " ``` ==== II. ", " ``` ==== III. ",
        "## Not promised How the state is held inside the object is free, as are the speed of each call, "
                + "the text of toString and the behaviour of equals and hashCode. Use of one object from "
                + "several threads at once is not promised to be safe. Nothing is promised beyond the answers "
                + "and state changes described above, and nothing about an object after its 512th call. "
    };

    public static void main(String[] args) throws Exception {
        FaceTest.main(args);
        TermsTest.main(args);
        RangesTest.main(args);
        RefusalsTest.main(args);
        TextBoundsTest.main(args);
        LandBoundsTest.main(args);
        MindBoundsTest.main(args);
        TellingBoundsTest.main(args);
        ShelfBoundsTest.main(args);
        Check check = new Check();
        String document = Sentences.documentOf(args);
        boolean[] held = new boolean[document.length()];
        for (String words : Sentences.said()) {
            hold(document, words, held);
        }
        for (String words : NO_PROMISE) {
            check.due("'" + words + "' stands in the document", document.contains(words) ? 1 : 0, 1);
            hold(document, words, held);
        }
        List<String> left = left(document, held);
        for (String words : left) {
            check.due("no test quotes '" + words + "', so it", 1, 0);
        }
        check.due("what is left", left.size(), 0);
        check.end("DocumentTest");
    }

    private static void hold(String document, String words, boolean[] held) {
        for (int i = document.indexOf(words); i >= 0; i = document.indexOf(words, i + 1)) {
            for (int k = i; k < i + words.length(); k++) {
                held[k] = true;
            }
        }
    }

    /** The words, one behind the other, that no quotation holds; signs alone do not count. */
    private static List<String> left(String document, boolean[] held) {
        List<String> left = new ArrayList<>();
        for (int i = 0; i < held.length; i++) {
            int from = i;
            while (i < held.length && !held[i]) {
                i++;
            }
            String words = document.substring(from, i);
            if (words.matches(".*\\w.*")) {
                left.add(words);
            }
        }
        return left;
    }
}
