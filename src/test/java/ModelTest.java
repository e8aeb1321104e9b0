import java.util.Random;

/** Runs of calls, drawn by fixed seeds, on FlowFold and on the Model side by side. */
public final class ModelTest {
    private static final int RUNS = 1200;
    private static final int CALLS = 120;
    private static final Checks checks = new Checks("ModelTest");

    private final Random random;
    private final FlowFold fold = new FlowFold();
    private final Model model = new Model();
    private final int run;

    private ModelTest(int run) {
        this.run = run;
        this.random = new Random(run);
    }

    public static void main(String[] args) {
        for (int run = 0; run < RUNS; run++) {
            new ModelTest(run).go();
        }
        allOfThree();
        checks.end();
    }

    // Every graph of three nodes that go straight on, fork or end.
    private static void allOfThree() {
        String[] nodes = {"e", "n0", "n1", "n2", "f00", "f01", "f02", "f10", "f11", "f12", "f20", "f21", "f22"};
        int run = RUNS;
        for (String zero : nodes) {
            for (String one : nodes) {
                for (String two : nodes) {
                    ModelTest test = new ModelTest(run);
                    test.readGraph(zero + "," + one + "," + two);
                    test.due("mend(1)", test.fold.mend(1), test.model.mend(1));
                    test.due("walk(" + run + ")", test.fold.walk(run), test.model.walk(run));
                    test.due("digest()", test.fold.digest(), test.model.digest());
                    run++;
                }
            }
        }
    }

    private void due(String call, long got, long want) {
        checks.due("run " + run + " " + call, got, want);
    }

    private void go() {
        if (random.nextInt(8) != 0) {
            readGraph(graphText(1 + random.nextInt(8)));
        }
        for (int call = 0; call < CALLS; call++) {
            step();
        }
        tellAll();
    }

    private String graphText(int nodes) {
        String kinds = random.nextBoolean() ? "fxtffn" : "nfextfn";
        StringBuilder text = new StringBuilder();
        for (int node = 0; node < nodes; node++) {
            char kind = kinds.charAt(random.nextInt(kinds.length()));
            text.append(node == 0 ? "" : ",").append(kind);
            int ends = kind == 'e' ? 0 : kind == 'n' ? 1 : 2;
            for (int end = 0; end < ends; end++) {
                text.append(random.nextInt(nodes));
            }
        }
        return text.toString();
    }

    private void readGraph(String text) {
        due("blank()", fold.blank(), model.blank());
        writeAll(text);
        due("fault() of " + text, fold.fault(), model.fault());
        due("graph() of " + text, fold.graph(), model.graph());
    }

    private void writeAll(String text) {
        for (char letter : text.toCharArray()) {
            due("letter(" + (int) letter + ")", fold.letter(letter), model.letter(letter));
        }
    }

    // A graph with a letter put in, taken out or changed, or cut short.
    private String spoilt() {
        StringBuilder text = new StringBuilder(graphText(1 + random.nextInt(8)));
        String letters = "nfext,01234567 89aE~";
        char letter = letters.charAt(random.nextInt(letters.length()));
        int at = random.nextInt(text.length());
        switch (random.nextInt(4)) {
            case 0: text.insert(at, letter); break;
            case 1: text.deleteCharAt(at); break;
            case 2: text.setCharAt(at, letter); break;
            default: text.setLength(at); break;
        }
        return text.toString();
    }

    private int number(int low, int high) {
        switch (random.nextInt(40)) {
            case 0: return low - 1;
            case 1: return high + 1;
            case 2: return random.nextInt();
            case 3: return random.nextBoolean() ? Integer.MIN_VALUE : Integer.MAX_VALUE;
            default: return low + random.nextInt(high - low + 1);
        }
    }

    private int nodeNumber() {
        return number(0, Math.max(0, model.count(0) - 1));
    }

    private void step() {
        switch (random.nextInt(24)) {
            case 0: case 1: stepPage(); break;
            case 2: case 3: case 4: case 5: stepChange(); break;
            case 6: case 7: case 8: case 9: stepNode(); break;
            case 10: case 11: case 12: stepWalk(); break;
            case 13: case 14: stepFold(); break;
            case 15: case 16: case 17: case 18: stepSeen(); break;
            case 19: case 20: stepImage(); break;
            case 21: stepCount(); break;
            case 22: due("digest()", fold.digest(), model.digest()); break;
            default: stepSign(); break;
        }
    }

    private void stepPage() {
        int choice = random.nextInt(30);
        if (choice == 0) {
            readGraph(graphText(1 + random.nextInt(8)));
        } else if (choice < 4) {
            readGraph(spoilt());
        } else if (choice < 8) {
            due("fault()", fold.fault(), model.fault());
            due("graph()", fold.graph(), model.graph());
        } else if (choice < 10) {
            due("blank()", fold.blank(), model.blank());
        } else {
            int code = number(32, 126);
            due("letter(" + code + ")", fold.letter(code), model.letter(code));
        }
    }

    private void stepChange() {
        int node = nodeNumber();
        if (random.nextInt(3) == 0) {
            int kind = number(0, 4);
            due("be(" + node + ", " + kind + ")", fold.be(node, kind), model.be(node, kind));
        } else {
            int which = number(0, 1);
            int to = nodeNumber();
            due("aim(" + node + ", " + which + ", " + to + ")", fold.aim(node, which, to), model.aim(node, which, to));
        }
    }

    private void stepNode() {
        int node = nodeNumber();
        int what = number(0, 9);
        due("node(" + node + ", " + what + ")", fold.node(node, what), model.node(node, what));
        int which = number(0, 1);
        due("edge(" + node + ", " + which + ")", fold.edge(node, which), model.edge(node, which));
        int kind = number(0, 4);
        due("as(" + node + ", " + kind + ")", fold.as(node, kind), model.as(node, kind));
        int other = nodeNumber();
        due("dominates(" + node + ", " + other + ")", fold.dominates(node, other), model.dominates(node, other));
    }

    private void stepWalk() {
        int input = random.nextBoolean() ? number(0, 255) : random.nextInt() >>> 1;
        due("walk(" + input + ")", fold.walk(input), model.walk(input));
        for (int visit = -1; visit <= 30; visit++) {
            due("visit(" + visit + ")", fold.visit(visit), model.visit(visit));
        }
    }

    private void stepFold() {
        int what = number(0, 3);
        due("fold(" + what + ")", fold.fold(what), model.fold(what));
        if (random.nextInt(12) == 0) {
            int mended = number(0, 1);
            due("mend(" + mended + ")", fold.mend(mended), model.mend(mended));
        }
    }

    private void stepSeen() {
        int choice = random.nextInt(10);
        if (choice == 0) {
            due("forget()", fold.forget(), model.forget());
        } else if (choice == 1) {
            int times = number(1, 8);
            int seed = number(0, Integer.MAX_VALUE - 1);
            int what = number(0, 2);
            due("drawn(" + times + ", " + seed + ", " + what + ")",
                fold.drawn(times, seed, what), model.drawn(times, seed, what));
        } else {
            int node = nodeNumber();
            int visit = number(1, 3);
            int did = number(0, 2);
            due("see(" + node + ", " + visit + ", " + did + ")", fold.see(node, visit, did), model.see(node, visit, did));
            due("node(" + node + ", 8)", fold.node(node, 8), model.node(node, 8));
            due("node(" + node + ", 9)", fold.node(node, 9), model.node(node, 9));
        }
    }

    private void stepImage() {
        if (random.nextInt(3) == 0) {
            due("image()", fold.image(), model.image());
        } else {
            due("restore()", fold.restore(), model.restore());
        }
    }

    private void stepCount() {
        int what = number(0, 11);
        due("count(" + what + ")", fold.count(what), model.count(what));
    }

    private void stepSign() {
        int number = number(0, 30);
        due("sign(" + number + ")", fold.sign(number), model.sign(number));
    }

    private void tellAll() {
        for (int what = 0; what <= 11; what++) {
            due("count(" + what + ")", fold.count(what), model.count(what));
        }
        for (int sign = -1; sign <= 72; sign++) {
            due("sign(" + sign + ")", fold.sign(sign), model.sign(sign));
        }
        due("digest()", fold.digest(), model.digest());
    }
}
