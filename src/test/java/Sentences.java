import java.io.IOException;
import java.lang.reflect.InvocationTargetException;
import java.lang.reflect.Method;
import java.util.ArrayList;
import java.util.Comparator;
import java.util.List;

/** Runs each test of a class that names a sentence of the document, and looks whether the sentence stands there. */
final class Sentences {
    private Sentences() {
    }

    static void run(Class<?> tests) throws IOException, IllegalAccessException {
        Document document = new Document();
        int sentences = 0;
        int broken = 0;
        for (Method test : testsOf(tests)) {
            Says says = test.getAnnotation(Says.class);
            Checks checks = new Checks(tests.getSimpleName() + "." + test.getName() + " (" + says.words() + ")");
            boolean ended = ends(test, checks);
            boolean stands = document.placeOf(says.promise(), says.words()) >= 0;
            if (!stands) {
                System.out.println("not in the document, promise " + says.promise() + ": " + says.words());
            }
            sentences++;
            broken += ended && stands && checks.hold() ? 0 : 1;
        }
        System.out.println(tests.getSimpleName() + ": " + sentences + " sentences, " + broken + " broken");
        if (broken != 0 || sentences == 0) {
            System.exit(1);
        }
    }

    // One that throws must not keep the others from being looked at.
    private static boolean ends(Method test, Checks checks) throws IllegalAccessException {
        try {
            test.invoke(null, checks);
            return true;
        } catch (InvocationTargetException thrown) {
            System.out.println(test.getName() + " threw " + thrown.getCause());
            return false;
        }
    }

    static List<Method> testsOf(Class<?> tests) {
        List<Method> found = new ArrayList<>();
        for (Method method : tests.getDeclaredMethods()) {
            if (method.isAnnotationPresent(Says.class)) {
                found.add(method);
            }
        }
        found.sort(Comparator.comparing(Method::getName));
        return found;
    }
}
