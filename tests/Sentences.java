import java.io.IOException;
import java.io.UncheckedIOException;
import java.nio.file.Files;
import java.nio.file.Path;
import java.util.ArrayList;
import java.util.List;
import java.util.Set;
import java.util.TreeSet;
import java.util.function.Supplier;
import java.util.function.ToLongFunction;

/**
 * Sentences of the document: says(..) begins the test of one, and the answers that are due behind
 * it, one at least, hold it. Its words must stand in the document, so that no test holds what the
 * document doesn't say.
 */
final class Sentences {
    /** A call with one number of it left open. */
    interface Call {
        long ask(HiredByLonging x, int v);
    }

    private static final int MIN = -2147483648;
    private static final int MAX = 2147483647;
    /** What all tests of this run have quoted; DocumentTest looks whether something is left. */
    private static final List<String> SAID = new ArrayList<>();

    private final Check check = new Check();
    private final Set<Integer> promises = new TreeSet<>();
    private final String document;
    private String sentence = "";
    private int held = 1;

    /** By the arguments of a test: the source's path, the document's path. */
    Sentences(String[] arguments) {
        document = documentOf(arguments);
    }

    /** The document with one blank between its words. */
    static String documentOf(String[] arguments) {
        try {
            return Files.readString(Path.of(arguments[1])).replaceAll("\\s+", " ");
        } catch (IOException e) {
            throw new UncheckedIOException(e);
        }
    }

    static List<String> said() {
        return List.copyOf(SAID);
    }

    /** Promise 0 is what the document says of all of it. */
    void says(int promise, String words) {
        isHeld();
        promises.add(promise);
        SAID.add(words);
        held = 0;
        sentence = "promise " + promise + ", \"" + words + "\": ";
        check.due(sentence + "stands in the document", document.contains(words) ? 1 : 0, 1);
    }

    void due(String call, long got, long want) {
        held++;
        check.due(sentence + call, got, want);
    }

    /** What is due from here on holds no sentence of the document, but something else. */
    void besides(String what) {
        isHeld();
        held = 1;
        sentence = what + ": ";
    }

    private void isHeld() {
        check.due(sentence + "an answer holds it", Math.min(held, 1), 1);
    }

    /** A call on an object of its own that is refused, with a look at all there is behind it. */
    void refused(Supplier<HiredByLonging> made, String call, ToLongFunction<HiredByLonging> ask, long want) {
        HiredByLonging asked = made.get();
        due(call, ask.applyAsLong(asked), want);
        List<Long> behind = Look.at(asked);
        List<Long> unasked = Look.at(made.get());
        due(call + " changes nothing: " + Look.first(unasked, behind), behind.equals(unasked) ? 1 : 0, 1);
    }

    /** The last numbers that are allowed are not answered with a refusal, the next ones are. */
    void range(Supplier<HiredByLonging> made, int least, int most, String call, Call asked, long refusal) {
        outside(made, least, most, call, asked, refusal);
        for (int v : new int[] {least, most}) {
            long answer = asked.ask(made.get(), v);
            due(call + " of " + v + " is allowed", answer == refusal ? 0 : 1, 1);
        }
    }

    /** The first numbers that are not allowed, and the farthest ones, are refused. */
    void outside(Supplier<HiredByLonging> made, int least, int most, String call, Call asked, long refusal) {
        for (int v : new int[] {MIN, least - 1, most + 1, MAX}) {
            refused(made, call + " of " + v, x -> asked.ask(x, v), refusal);
        }
    }

    /** Ends the test, which must have held a sentence of each of these promises. */
    void end(String name, int firstPromise, int lastPromise) {
        isHeld();
        for (int p = firstPromise; p <= lastPromise; p++) {
            check.due("sentences of promise " + p + " are held", promises.contains(p) ? 1 : 0, 1);
        }
        check.end(name);
    }
}
