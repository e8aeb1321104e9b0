import java.util.function.IntSupplier;
import java.util.function.IntUnaryOperator;

/** Counts answers that are not as due, and makes objects that have read a GRAPH. */
final class Checks {
    static final int NONE = -1, UNKNOWN = -101, OUTSIDE = -102, STATE = -103, FULL = -104;
    static final int LOW = Integer.MIN_VALUE, HIGH = Integer.MAX_VALUE;

    private final String name;
    private int looked;
    private int wrong;

    Checks(String name) {
        this.name = name;
    }

    void due(String call, long got, long want) {
        looked++;
        if (got != want) {
            wrong++;
            if (wrong <= 40) {
                System.out.println(name + ": " + call + " answered " + got + ", due is " + want);
            }
        }
    }

    /** A refusal answers what is due, and all that digest() tells of is as it was. */
    void refused(FlowFold fold, String call, IntSupplier told, int want) {
        long before = fold.digest();
        due(call, told.getAsInt(), want);
        due("digest() behind " + call, fold.digest(), before);
    }

    /** Refused are the numbers next to those from low to high, and some that are far from them. */
    void refusedBeyond(int low, int high, FlowFold fold, String call, IntUnaryOperator told, int want) {
        long[] numbers = {low - 1L, high + 1L, low - 256L, high + 256L, low - 65536L, high + 65536L, LOW, HIGH};
        for (long number : numbers) {
            if (number >= LOW && number <= HIGH && (number < low || number > high)) {
                refused(fold, call + " with " + number, () -> told.applyAsInt((int) number), want);
            }
        }
    }

    boolean hold() {
        return wrong == 0 && looked != 0;
    }

    void end() {
        System.out.println(name + ": " + looked + " answers, " + wrong + " wrong");
        if (!hold()) {
            System.exit(1);
        }
    }

    static FlowFold paged(String text) {
        FlowFold fold = new FlowFold();
        write(fold, text);
        return fold;
    }

    static FlowFold read(String text) {
        FlowFold fold = paged(text);
        fold.graph();
        return fold;
    }

    static void write(FlowFold fold, String text) {
        for (int i = 0; i < text.length(); i++) {
            fold.letter(text.charAt(i));
        }
    }
}
