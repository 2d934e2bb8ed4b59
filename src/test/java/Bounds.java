import java.util.NoSuchElementException;
import java.util.function.Supplier;
import java.util.function.ToLongFunction;

/** Runs tests of boundary sentences. Each names its promise and the document's own words. */
final class Bounds {
    private static final int NONE = WokenBorder.NONE;

    private final Document document = new Document();
    private final Due tally = new Due();
    private String about = "";
    private int tests;

    /** A sentence of the promise's own section. */
    void promise(int promise, String sentence, Runnable test) {
        check(promise, Document.titleOf(promise), sentence, test);
    }

    /** One reason of a sentence that tells why a call is refused. */
    void refusal(int promise, String sentence, String reason, Runnable test) {
        document.nameReason(promise, sentence, reason);
        check(promise, Document.titleOf(promise), sentence, test);
    }

    /** A sentence of the Terms, as it is seen by that promise. */
    void terms(int promise, String sentence, Runnable test) {
        check(promise, Document.TERMS, sentence, test);
    }

    /** A sentence ahead of the Terms. */
    void opening(int promise, String sentence, Runnable test) {
        check(promise, Document.OPENING, sentence, test);
    }

    private void check(int promise, String section, String sentence, Runnable test) {
        tests++;
        about = "promise " + promise + ", \"" + sentence + "\": ";
        due("how often it stands in " + section, document.name(section, sentence), 1);
        int before = tally.asked();
        try {
            test.run();
        } catch (RuntimeException | StackOverflowError thrown) {
            due("threw " + thrown, 1, 0);
        }
        due("something was asked", tally.asked() > before, true);
    }

    void finish(String name) {
        about = "";
        for (String left : document.leftOut()) {
            due("no test names " + left, 1, 0);
        }
        System.out.println(name + ": " + tests + " sentences");
        tally.finish(name);
    }

    void due(String call, long got, long want) {
        tally.due(about + call, got, want);
    }

    void due(String call, boolean got, boolean want) {
        tally.due(about + call, got, want);
    }

    /** The call is answered so on a world of its own. */
    void answers(String call, Supplier<WokenBorder> world, ToLongFunction<WokenBorder> ask, long want) {
        due(call, answerOf(world.get(), ask), want);
    }

    /** The call is refused, so, twice; and behind it all is as in a world in which nobody asked. */
    void refused(String call, Supplier<WokenBorder> world, ToLongFunction<WokenBorder> ask, long want) {
        WokenBorder asked = world.get();
        due(call, answerOf(asked, ask), want);
        due(call + " again", answerOf(asked, ask), want);
        String difference = Photo.difference(new Photo(asked), new Photo(world.get()));
        due(call + " changed " + difference, difference.isEmpty(), true);
    }

    private static long answerOf(WokenBorder x, ToLongFunction<WokenBorder> ask) {
        try {
            return ask.applyAsLong(x);
        } catch (NoSuchElementException told) {
            return Due.THROWS;
        }
    }

    /** A TEXT without a FAULT. */
    void good(int sort, String text) {
        WokenBorder x = new WokenBorder();
        due("bytes of '" + text + "'", Due.feed(x, text), text.length());
        due("fault(" + sort + ") of '" + text + "'", x.fault(sort), NONE);
        due("text(" + sort + ") of '" + text + "'", x.text(sort) >= 0, true);
    }

    /** A TEXT with its FAULT there; to tell it is refused, and changes nothing. */
    void bad(int sort, String text, int at) {
        WokenBorder x = new WokenBorder();
        Due.feed(x, text);
        due("fault(" + sort + ") of '" + text + "'", x.fault(sort), at);
        refused("text(" + sort + ") of '" + text + "'", () -> Worlds.withTape(text), y -> y.text(sort), NONE);
    }
}
