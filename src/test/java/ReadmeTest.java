import java.io.File;
import java.io.IOException;
import java.lang.reflect.Method;
import java.lang.reflect.Modifier;
import java.net.URL;
import java.net.URLClassLoader;
import java.nio.file.Files;
import java.nio.file.Path;
import java.util.ArrayList;
import java.util.Comparator;
import java.util.List;
import java.util.Set;
import java.util.TreeSet;
import java.util.regex.Matcher;
import java.util.regex.Pattern;
import java.util.stream.Stream;
import javax.tools.ToolProvider;

/** README.md shows how to use the class: its pieces of code, as one run, compile and answer what stands behind them. */
public final class ReadmeTest {
    private static final Pattern PIECE = Pattern.compile("```java\n(.*?)```", Pattern.DOTALL);
    private static final Pattern CALL = Pattern.compile("(x\\.(\\w+)\\(.*\\)); +// (-?\\d+|[A-Z]+)(: .+)?");
    private static final Pattern PICTURE = Pattern.compile("```text\n(.*?)```", Pattern.DOTALL);
    private static final Pattern SIGNS = Pattern.compile(" *(\\d+(?: \\d+)*)(?: {2,}\\D.*)?");
    private static final String PICTURED = "f14,f23,n1,n4,e";
    private static final Pattern NAMED = Pattern.compile("`(\\w+Test)`");
    private static final Checks checks = new Checks("ReadmeTest");

    private final List<String> calls = new ArrayList<>();
    private final List<Long> due = new ArrayList<>();
    private final Set<String> names = new TreeSet<>();
    private final StringBuilder code = new StringBuilder();

    public static void main(String[] args) throws Exception {
        String page = Files.readString(Path.of("README.md"));
        new ReadmeTest().look(page);
        picture(page);
        testsNamed(page);
        checks.end();
    }

    private void look(String page) throws Exception {
        Matcher piece = PIECE.matcher(page);
        while (piece.find()) {
            for (String line : piece.group(1).split("\n")) {
                take(line);
            }
        }
        for (Method method : FlowFold.class.getDeclaredMethods()) {
            if (Modifier.isPublic(method.getModifiers())) {
                checks.due("README.md shows " + method.getName(), names.contains(method.getName()) ? 1 : 0, 1);
            }
        }
        List<Long> got = answers();
        checks.due("calls that answered", got.size(), due.size());
        for (int i = 0; i < Math.min(got.size(), due.size()); i++) {
            checks.due("README.md: " + calls.get(i), got.get(i), due.get(i));
        }
    }

    // A call that stands alone in its line must say what it answers; the other lines are taken as they are.
    private void take(String line) throws ReflectiveOperationException {
        Matcher call = CALL.matcher(line);
        if (!call.matches()) {
            checks.due("README.md says what is answered: " + line, line.startsWith("x.") ? 1 : 0, 0);
            code.append(line).append('\n');
            return;
        }
        calls.add(call.group(1));
        names.add(call.group(2));
        String answer = call.group(3);
        boolean number = !Character.isUpperCase(answer.charAt(0));
        due.add(number ? Long.parseLong(answer) : FlowFold.class.getField(answer).getInt(null));
        code.append("got.add((long) ").append(call.group(1)).append(");\n");
    }

    private List<Long> answers() throws Exception {
        Path place = Files.createTempDirectory("readme");
        try {
            Path file = place.resolve("ReadmeRun.java");
            Files.writeString(file, "public class ReadmeRun {\npublic static void run(java.util.List<Long> got) {\n"
                + code + "}\n}\n");
            int failed = ToolProvider.getSystemJavaCompiler().run(null, null, null,
                "-d", place.toString(), "-cp", System.getProperty("java.class.path"), file.toString());
            checks.due("README.md compiles", failed, 0);
            return failed == 0 ? run(place) : List.of();
        } finally {
            remove(place);
        }
    }

    private static List<Long> run(Path place) throws Exception {
        List<Long> got = new ArrayList<>();
        try (URLClassLoader loader = new URLClassLoader(new URL[] {place.toUri().toURL()})) {
            loader.loadClass("ReadmeRun").getMethod("run", List.class).invoke(null, got);
        }
        return got;
    }

    private static void remove(Path place) throws IOException {
        try (Stream<Path> all = Files.walk(place)) {
            all.sorted(Comparator.reverseOrder()).map(Path::toFile).forEach(File::delete);
        }
    }

    // The picture of the fold has its signs at the beginning of each line.
    private static void picture(String page) {
        Matcher picture = PICTURE.matcher(page);
        boolean found = picture.find() && page.contains(PICTURED);
        checks.due("README.md has a picture of the fold of " + PICTURED, found ? 1 : 0, 1);
        FlowFold x = Checks.read(PICTURED);
        int number = 0;
        for (String line : found ? picture.group(1).split("\n") : new String[0]) {
            Matcher signs = SIGNS.matcher(line);
            checks.due("signs in the line '" + line + "'", signs.matches() ? 1 : 0, 1);
            for (String sign : signs.matches() ? signs.group(1).split(" ") : new String[0]) {
                checks.due("README.md's picture, sign " + number, x.sign(number), Long.parseLong(sign));
                number++;
            }
        }
        checks.due("README.md's picture, how many signs", x.fold(0), number);
    }

    private static void testsNamed(String page) throws IOException {
        Set<String> named = new TreeSet<>();
        Matcher name = NAMED.matcher(page);
        while (name.find()) {
            named.add(name.group(1));
        }
        Set<String> there = new TreeSet<>();
        try (Stream<Path> files = Files.list(Path.of("src/test/java"))) {
            files.map(file -> file.getFileName().toString()).filter(file -> file.endsWith("Test.java"))
                .forEach(file -> there.add(file.replace(".java", "")));
        }
        checks.due("README.md names " + named + ", there are " + there, named.equals(there) ? 1 : 0, 1);
    }
}
