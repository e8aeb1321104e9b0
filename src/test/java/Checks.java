/** Counts answers that are not as due, and makes objects that have read a GRAPH. */
final class Checks {
    private final String name;
    private int looked;
    private int wrong;

    Checks(String name) {
        this.name = name;
    }

    void due(String call, long got, long want) {
        looked++;
        if (got != want) {
            wrong++;
            if (wrong <= 40) {
                System.out.println(name + ": " + call + " answered " + got + ", due is " + want);
            }
        }
    }

    void end() {
        System.out.println(name + ": " + looked + " answers, " + wrong + " wrong");
        if (wrong != 0 || looked == 0) {
            System.exit(1);
        }
    }

    static FlowFold paged(String text) {
        FlowFold fold = new FlowFold();
        write(fold, text);
        return fold;
    }

    static FlowFold read(String text) {
        FlowFold fold = paged(text);
        fold.graph();
        return fold;
    }

    static void write(FlowFold fold, String text) {
        for (int i = 0; i < text.length(); i++) {
            fold.letter(text.charAt(i));
        }
    }
}
