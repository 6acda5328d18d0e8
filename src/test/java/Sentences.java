import java.io.IOException;
import java.nio.file.Files;
import java.nio.file.Path;

/**
 * The sentences of ../shared/DOC.md one by one, each with runs of calls that would be answered otherwise, if it were
 * broken. Each run is done by a new SofaStair and by a new Model, so that the tests themselves are looked after, too.
 */
final class Sentences {
    final Due due = new Due();
    private final String document;
    private final boolean[] quoted;
    private String named = "";

    Sentences() throws IOException {
        String text = Files.readString(Path.of("../shared/DOC.md"));
        // the lines of the public face, and what stands ahead of calls, are for FaceTest
        document = text.replaceAll("(?m)^(?:#.*|```.*|Ahead of .*|public final .*| {4}public .*|\\})$", " ").replaceAll("={3,} \\d(?: THE WAY:)?", " ")
                .replaceAll("\\s+", " ");
        quoted = new boolean[document.length()];
    }

    /** What comes now is about a sentence of the document, told in its own words. */
    void sentence(String quote) {
        int at = document.indexOf(quote);
        due.about(quote);
        named = quote;
        due.holds("stands in the document once", at >= 0 && document.indexOf(quote, at + 1) < 0);
        for (int i = 0; at >= 0 && i < quote.length(); i++) quoted[at + i] = true;
    }

    /** Which run of several it is, where they are made by a loop. */
    void about(String what) {
        due.about(named + " " + what);
    }

    void run(String... calls) {
        Script script = new Script(due, new SofaStair());
        Script model = new Script(due, new Model());
        for (String lines : calls) {
            script.run(lines);
            model.run(lines);
        }
    }

    /** Each of the calls, on an object that others have come before, is refused and changes nothing. */
    void refused(String before, String... calls) {
        for (String call : Script.split(String.join("\n", calls))) {
            Script touched = new Script(due, new SofaStair());
            Script untouched = new Script(due, new SofaStair());
            touched.run(before);
            untouched.run(before);
            touched.run(call);
            due.holds(call + " is told as refused", call.matches(".* = (UNKNOWN|OUTSIDE|STATE|NO|FULL)"));
            due.holds(call + " changes nothing", Everything.of(touched).equals(Everything.of(untouched)));
        }
    }

    /** After all of the calls an object is as if they had been the others. */
    void same(String calls, String others) {
        Script one = new Script(due, new SofaStair());
        Script other = new Script(due, new SofaStair());
        one.run(calls);
        other.run(others);
        due.holds("as if it had been " + others, Everything.of(one).equals(Everything.of(other)));
    }

    /** All that the document says between two places was quoted. */
    void allQuoted(String first, String last) {
        int from = document.indexOf(first);
        int to = document.indexOf(last) + last.length();
        due.about("all sentences");
        due.holds("the places are there", from >= 0 && to > from);
        StringBuilder rest = new StringBuilder();
        for (int i = from; i >= 0 && i < to; i++) rest.append(quoted[i] ? '\n' : document.charAt(i));
        for (String piece : rest.toString().split("\n+")) {
            due.holds("a sentence without a test: " + piece, piece.replaceAll("[ .;:,]", "").isEmpty());
        }
    }
}
