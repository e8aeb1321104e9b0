import java.io.IOException;
import java.nio.file.Files;
import java.nio.file.Path;
import java.util.regex.Matcher;
import java.util.regex.Pattern;

/** Those rules of LANGUAGE.md that can be seen in the text of the class. */
public final class SourceTest {
    private static final Checks checks = new Checks("SourceTest");
    private static final String[] WORDS = {"throw", "throws", "try", "catch", "finally", "synchronized", "assert",
        "package", "protected", "native", "volatile", "transient", "Object", "Exception", "Thread", "Random", "hashCode",
        "equals", "toString", "double", "float", "var", "instanceof"};
    private static final Pattern METHOD = Pattern.compile("^( {4}| {8})(\\w[\\w\\[\\] ]*)\\(([^)]*)\\) \\{$");

    public static void main(String[] args) throws IOException {
        String[] lines = Files.readString(Path.of("src/main/java/FlowFold.java")).split("\n");
        int classes = 0;
        for (int i = 0; i < lines.length; i++) {
            String code = bare(lines[i]);
            words(i + 1, code);
            if (Pattern.compile("\\bclass\\b").matcher(code).find()) {
                classes++;
            }
            Matcher method = METHOD.matcher(code);
            if (method.matches()) {
                due("parameters of line " + (i + 1), method.group(3).split(",").length <= 7);
                due("length of the method at line " + (i + 1), lengthOf(lines, i, method.group(1)) <= 60);
            }
        }
        due("classes", classes >= 1 && classes <= 12);
        checks.end();
    }

    private static void due(String what, boolean holds) {
        checks.due(what, holds ? 1 : 0, 1);
    }

    // Comments and texts may say what they like.
    private static String bare(String line) {
        if (line.trim().startsWith("*") || line.trim().startsWith("/*")) {
            return "";
        }
        return line.replaceAll("\"[^\"]*\"", "\"\"").replaceAll("//.*", "");
    }

    private static void words(int number, String code) {
        for (String word : WORDS) {
            due("line " + number + " without " + word, !Pattern.compile("\\b" + word + "\\b").matcher(code).find());
        }
        due("line " + number + " without lambda", !code.contains("->") && !code.contains("::"));
        due("line " + number + " imports", !code.startsWith("import") || code.equals("import java.util.Arrays;"));
        due("line " + number + " static block", !code.trim().equals("static {"));
        due("line " + number + " joins no texts", !code.contains("\" +") && !code.contains("+ \""));
    }

    private static int lengthOf(String[] lines, int start, String indent) {
        int end = start;
        while (end < lines.length && !lines[end].equals(indent + "}")) {
            end++;
        }
        return end - start + 1;
    }
}
