import java.io.IOException;
import java.lang.reflect.Method;
import java.nio.file.Files;
import java.nio.file.Path;
import java.util.ArrayList;
import java.util.Comparator;
import java.util.List;
import java.util.Set;
import java.util.TreeSet;

/** Runs each test of a class that names a sentence of the document, and looks whether the sentence stands there. */
final class Sentences {
    private static final Path DOCUMENT = Path.of("../shared/DOC.md");
    private static final int PROMISES = 23;

    private Sentences() {
    }

    /** Each promise from the first to the last one must have a test among those of the class. */
    static void run(Class<?> tests, int first, int last) throws IOException, ReflectiveOperationException {
        String document = Files.readString(DOCUMENT).replaceAll("\\s+", " ");
        Set<Integer> missing = new TreeSet<>();
        for (int promise = first; promise <= last; promise++) {
            missing.add(promise);
        }
        int sentences = 0;
        int broken = 0;
        for (Method test : testsOf(tests)) {
            Says says = test.getAnnotation(Says.class);
            Checks checks = new Checks(tests.getSimpleName() + "." + test.getName() + " (" + says.words() + ")");
            test.invoke(null, checks);
            boolean stands = section(document, says.promise()).contains(says.words());
            if (!stands) {
                System.out.println("not in the document, promise " + says.promise() + ": " + says.words());
            }
            sentences++;
            broken += stands && checks.hold() ? 0 : 1;
            missing.remove(says.promise());
        }
        System.out.println(tests.getSimpleName() + ": " + sentences + " sentences, " + broken + " broken");
        if (!missing.isEmpty()) {
            System.out.println(tests.getSimpleName() + ": no test for the promises " + missing);
        }
        if (broken != 0 || sentences == 0 || !missing.isEmpty()) {
            System.exit(1);
        }
    }

    private static List<Method> testsOf(Class<?> tests) {
        List<Method> found = new ArrayList<>();
        for (Method method : tests.getDeclaredMethods()) {
            if (method.isAnnotationPresent(Says.class)) {
                found.add(method);
            }
        }
        found.sort(Comparator.comparing(Method::getName));
        return found;
    }

    private static String section(String document, int promise) {
        int start = promise == 0 ? 0 : document.indexOf("## Promise " + promise + ":");
        String end = promise == PROMISES ? "## Not promised" : "## Promise " + (promise + 1) + ":";
        return start < 0 || document.indexOf(end) < start ? "" : document.substring(start, document.indexOf(end));
    }
}
