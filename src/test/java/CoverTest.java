import java.io.IOException;
import java.lang.reflect.Method;
import java.util.regex.Matcher;
import java.util.regex.Pattern;

/** Wherever the document names a bound or a refusal, a test holds the class to those words. */
public final class CoverTest {
    private static final Class<?>[] TESTS = {GraphTextBoundsTest.class, FlowBoundsTest.class, SeenBoundsTest.class,
        NodeCallsBoundsTest.class, FoldCallsBoundsTest.class};
    private static final Pattern BOUND = Pattern.compile("UNKNOWN|OUTSIDE|STATE|FULL|NONE|\\d to \\d|rounded|wrapping|"
        + "\\b(at most|at least|least|fewest|worst|none|nothing|empty|above|or more|rest|first|last|latest|both|either)\\b");
    private static final Checks checks = new Checks("CoverTest");

    public static void main(String[] args) throws IOException {
        Document document = new Document();
        boolean[] held = heldBy(document);
        String text = document.text;
        look(text, held, text.indexOf("A GRAPH is a text"), text.indexOf("## The public face"));
        look(text, held, text.indexOf("## Terms"), text.indexOf("Ahead of the calls `letter`"));
        for (int promise = 1; promise <= Document.PROMISES; promise++) {
            look(text, held, document.start(promise), document.end(promise));
        }
        checks.end();
    }

    private static boolean[] heldBy(Document document) {
        boolean[] held = new boolean[document.text.length()];
        for (Class<?> tests : TESTS) {
            for (Method test : Sentences.testsOf(tests)) {
                Says says = test.getAnnotation(Says.class);
                int place = document.placeOf(says.promise(), says.words());
                for (int i = place; place >= 0 && i < place + says.words().length(); i++) {
                    held[i] = true;
                }
            }
        }
        return held;
    }

    // Also a part without any bound needs a test.
    private static void look(String text, boolean[] held, int start, int end) {
        boolean stands = start >= 0 && end > start;
        checks.due("a part stands in the document", stands ? 1 : 0, 1);
        if (!stands) {
            return;
        }
        int some = 0;
        for (int i = start; i < end; i++) {
            some += held[i] ? 1 : 0;
        }
        checks.due("a test of the part '" + text.substring(start, Math.min(end, start + 20)) + "'", some > 0 ? 1 : 0, 1);
        Matcher bound = BOUND.matcher(text).region(start, end);
        while (bound.find()) {
            String near = text.substring(Math.max(start, bound.start() - 40), Math.min(end, bound.end() + 40));
            checks.due("a test of '" + near + "'", held[bound.start()] ? 1 : 0, 1);
        }
    }
}
