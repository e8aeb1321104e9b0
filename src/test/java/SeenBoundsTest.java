import java.math.BigInteger;
import java.util.function.IntSupplier;

/** Each sentence of 'Terms', 3, that names a bound: of what is SEEN, of SORTS and ASK, DRAWS, the IMAGE and refusals. */
public final class SeenBoundsTest {
    public static void main(String[] args) throws Exception {
        Sentences.run(SeenBoundsTest.class);
    }

    private static void see(FlowFold x, int node, int... seen) {
        for (int i = 0; i + 1 < seen.length; i += 2) {
            x.see(node, seen[i], seen[i + 1]);
        }
    }

    // Pairs of a visit and what was done at it.
    private static void sorts(Checks checks, int sorts, int ask, int... seen) {
        FlowFold x = Checks.read("n0,e");
        see(x, 1, seen);
        StringBuilder told = new StringBuilder("seen");
        for (int number : seen) {
            told.append(' ').append(number);
        }
        checks.due(told + ": SORTS", x.node(1, 8), sorts);
        checks.due(told + ": ASK", x.node(1, 9), ask);
        checks.due(told + ": SORTS of another NODE", x.node(0, 8), 31);
        checks.due(told + ": ASK of another NODE", x.node(0, 9), 2);
    }

    @Says(promise = 0, words = "SEEN (6 at most)")
    static void sixAtMost(Checks checks) {
        FlowFold x = Checks.read("n1,e");
        for (int many = 1; many <= 6; many++) {
            checks.due("see " + many, x.see(0, 1, 0), many);
        }
        checks.refused(x, "a seventh", () -> x.see(0, 1, 2), Checks.FULL);
        checks.refused(x, "a seventh of another NODE", () -> x.see(1, 1, 2), Checks.FULL);
        checks.due("the SORTS of six alike", x.node(0, 8), 27);
        // Each of the six counts, the last one too.
        FlowFold y = Checks.read("n1,e");
        see(y, 1, 1, 0, 1, 0, 1, 0, 1, 0, 1, 0, 2, 1);
        checks.due("the SORTS of six", y.node(1, 8), 10);
        FlowFold z = Checks.read("e,e,e,e,e,e,e,e");
        for (int node = 2; node < 8; node++) {
            z.see(node, 1, 2);
            checks.due("the SORTS of " + node, z.node(node, 8), 4);
        }
    }

    @Says(promise = 0, words = "what it did at a visit (1 to 3): 0 it went to its FIRST, 1 to its SECOND, 2 it ended")
    static void whatIsSeen(Checks checks) {
        int[][] left = {{27, 2, 4}, {19, 10, 4}, {11, 18, 4}};
        int[][] asks = {{2, 1, 1}, {3, 1, 1}, {2, 1, 1}};
        for (int visit = 1; visit <= 3; visit++) {
            for (int did = 0; did <= 2; did++) {
                sorts(checks, left[visit - 1][did], asks[visit - 1][did], visit, did);
            }
        }
    }

    @Says(promise = 0, words = "SORTS (KINDS 0 to 4) it can be of, so that all that is SEEN of it is so (of a FORK each by"
        + " an INPUT of its own): as bits.")
    static void sortsAsBits(Checks checks) {
        sorts(checks, 31, 2);
        sorts(checks, 3, 1, 1, 0, 2, 0, 3, 0);
        // Only a FORK goes both ways at one visit.
        sorts(checks, 2, 1, 1, 0, 1, 1);
        sorts(checks, 2, 1, 1, 0, 2, 1, 3, 0, 1, 1, 2, 0, 3, 1);
        sorts(checks, 8 + 2, 1, 1, 0, 2, 1, 3, 0);
        sorts(checks, 16 + 2, 1, 1, 0, 2, 0, 3, 1);
        sorts(checks, 4, 1, 1, 2, 2, 2, 3, 2);
        sorts(checks, 0, Checks.NONE, 1, 0, 2, 2);
        // Whatever KIND it has now does not matter.
        FlowFold x = Checks.read("n0,e");
        x.see(1, 1, 0);
        x.be(1, 4);
        checks.due("of another KIND", x.node(1, 8), 27);
    }

    @Says(promise = 0, words = "ASK for a NODE: which visit (1 to 3) to look at next, so that fewest of these are left at"
        + " worst, by what it does (a FORK can do both)")
    static void askByTheWorst(Checks checks) {
        // Of all, at the second visit 0, 1 and 4 may be left, at the first one 0, 1, 3 and 4.
        sorts(checks, 31, 2);
        // Of 0, 1 and 4 only the third visit tells 4 from 0.
        sorts(checks, 19, 3, 2, 0);
        // Of 0, 1 and 3 only the second one tells 3 from 0.
        sorts(checks, 11, 2, 3, 0);
        // Of 1 and 3 both may do the same at each visit.
        sorts(checks, 10, 1, 2, 1);
    }

    @Says(promise = 0, words = "of like ones the least; none, if there are none")
    static void askTheLeast(Checks checks) {
        // The second and the third visit are alike.
        sorts(checks, 27, 2, 1, 0);
        // All three are.
        sorts(checks, 3, 1, 2, 0, 3, 0);
        sorts(checks, 18, 1, 3, 1);
        sorts(checks, 2, 1, 1, 1);
        sorts(checks, 4, 1, 3, 2);
        sorts(checks, 0, Checks.NONE, 1, 1, 1, 2);
        sorts(checks, 0, Checks.NONE, 3, 2, 1, 0);
    }

    private static BigInteger next(BigInteger seed) {
        return seed.multiply(BigInteger.valueOf(1103515245)).add(BigInteger.valueOf(12345))
            .mod(BigInteger.ONE.shiftLeft(31));
    }

    @Says(promise = 0, words = "1103515245 times it and 12345, its rest by 2 to the 31")
    static void seedsWrapAround(Checks checks) {
        int[] seeds = {0, 1, 2, 65535, 65536, 1 << 30, (1 << 30) - 1, Checks.HIGH - 1, Checks.HIGH};
        for (int seed : seeds) {
            BigInteger then = BigInteger.valueOf(seed);
            for (int times = 1; times <= 8; times++) {
                then = behindOneGraph(then);
                checks.due("drawn(" + times + ", " + seed + ", 2)", new FlowFold().drawn(times, seed, 2),
                    then.longValueExact());
            }
        }
    }

    @Says(promise = 0, words = "so many GRAPHS of five NODES, of each the KIND by a DRAW of 5, FIRST by a DRAW of 5, SECOND"
        + " by a DRAW of 5: how many can be FOLDED; how many HEADS all of them have together")
    static void graphsDrawn(Checks checks) {
        int unfolded = 0;
        for (int seed : new int[] {0, 1, 5, 9, 77, 123456789, Checks.HIGH}) {
            BigInteger then = BigInteger.valueOf(seed);
            int folded = 0;
            int heads = 0;
            for (int times = 1; times <= 8; times++) {
                FlowFold told = Checks.read(graphText(then));
                folded += told.fold(0) != Checks.NONE ? 1 : 0;
                heads += told.count(5);
                FlowFold x = new FlowFold();
                checks.due("drawn(" + times + ", " + seed + ", 0)", x.drawn(times, seed, 0), folded);
                checks.due("drawn(" + times + ", " + seed + ", 1)", x.drawn(times, seed, 1), heads);
                then = behindOneGraph(then);
            }
            unfolded += 8 - folded;
        }
        checks.due("some of them cannot be folded", unfolded > 0 ? 1 : 0, 1);
    }

    @Says(promise = 0, words = "then that by 65536 (rounded down), its rest.")
    static void drawsRoundedDown(Checks checks) {
        BigInteger ring = BigInteger.ONE.shiftLeft(31);
        BigInteger back = BigInteger.valueOf(1103515245).modInverse(ring);
        // The SEED behind the first DRAW stands at a bound of what is rounded down.
        for (int quotient = 0; quotient < 32768; quotient += 1 + quotient / 3) {
            for (int rest : new int[] {0, 1, 32767, 32768, 65535}) {
                BigInteger first = BigInteger.valueOf(65536L * quotient + rest);
                BigInteger seed = first.subtract(BigInteger.valueOf(12345)).multiply(back).mod(ring);
                FlowFold told = Checks.read(graphText(seed));
                checks.due("the KIND of " + first, told.node(0, 0), quotient % 5);
                FlowFold x = new FlowFold();
                int number = seed.intValueExact();
                checks.due("drawn(1, " + number + ", 0)", x.drawn(1, number, 0), told.fold(0) != Checks.NONE ? 1 : 0);
                checks.due("drawn(1, " + number + ", 1)", x.drawn(1, number, 1), told.count(5));
            }
        }
    }

    private static BigInteger behindOneGraph(BigInteger seed) {
        BigInteger then = seed;
        for (int draw = 0; draw < 15; draw++) {
            then = next(then);
        }
        return then;
    }

    private static String graphText(BigInteger seed) {
        StringBuilder text = new StringBuilder();
        BigInteger then = seed;
        for (int node = 0; node < 5; node++) {
            BigInteger kind = next(then);
            BigInteger first = next(kind);
            then = next(first);
            text.append(node == 0 ? "" : ",").append(nodeText(drawn(kind), drawn(first), drawn(then)));
        }
        return text.toString();
    }

    private static int drawn(BigInteger seed) {
        return seed.divide(BigInteger.valueOf(65536)).mod(BigInteger.valueOf(5)).intValueExact();
    }

    private static String nodeText(int kind, int first, int second) {
        String ends = kind == 2 ? "" : kind == 0 ? "" + first : "" + first + second;
        return "nfext".charAt(kind) + ends;
    }

    @Says(promise = 0, words = "DRAWN by a SEED, as they would be")
    static void drawnChangesNothing(Checks checks) {
        FlowFold x = rich();
        long before = x.digest();
        x.drawn(8, 3, 0);
        x.drawn(8, 4, 1);
        x.drawn(8, 5, 2);
        checks.due("digest()", x.digest(), before);
        checks.due("the IMAGE stays", x.restore(), 5);
        checks.due("the same SEED, the same answer", x.drawn(3, 5, 2), x.drawn(3, 5, 2));
    }

    // A GRAPH changed since its IMAGE, with a WALK, a MEND, a PAGE, and all six SEEN.
    private static FlowFold rich() {
        FlowFold x = Checks.read("f14,f23,n1,n4,e");
        x.see(1, 2, 1);
        x.image();
        x.aim(3, 0, 2);
        x.be(2, 3);
        see(x, 0, 1, 0, 2, 0, 3, 0);
        see(x, 4, 1, 2, 3, 2);
        x.walk(4);
        x.mend(1);
        Checks.write(x, "n5,~");
        return x;
    }

    @Says(promise = 0, words = "An IMAGE keeps KINDS, FIRSTS, SECONDS, SEEN.")
    static void imageKeeps(Checks checks) {
        FlowFold x = rich();
        int visits = x.count(7);
        x.restore();
        int[] kinds = {1, 1, 0, 0, 2};
        int[] firsts = {1, 2, 1, 4, 0};
        int[] seconds = {4, 3, 0, 0, 0};
        int[] sorts = {31, 10, 31, 31, 31};
        for (int node = 0; node < 5; node++) {
            checks.due("KIND of " + node, x.node(node, 0), kinds[node]);
            checks.due("FIRST of " + node, x.node(node, 1), firsts[node]);
            checks.due("SECOND of " + node, x.node(node, 2), seconds[node]);
            checks.due("SORTS of " + node, x.node(node, 8), sorts[node]);
        }
        checks.due("how much is SEEN", x.count(8), 1);
        checks.due("the WALK is not of it", x.count(7), visits);
        checks.due("nor THE PAGE", x.count(9), 4);
        checks.due("nor how often was read", x.count(10), 1);
        checks.due("nor how often was mended", x.count(11), 1);
    }

    @Says(promise = 0, words = "Refusals, of several the first as told by each call")
    static void theFirstOfSeveral(Checks checks) {
        FlowFold none = new FlowFold();
        FlowFold x = rich();
        checks.due("node: UNKNOWN, OUTSIDE", x.node(5, 10), Checks.UNKNOWN);
        checks.due("node of no GRAPH", none.node(0, 10), Checks.UNKNOWN);
        checks.due("as: UNKNOWN, OUTSIDE", x.as(5, 5), Checks.UNKNOWN);
        checks.due("edge: UNKNOWN, OUTSIDE", x.edge(5, 2), Checks.UNKNOWN);
        checks.due("aim: UNKNOWN node, OUTSIDE", x.aim(5, 2, 0), Checks.UNKNOWN);
        checks.due("aim: UNKNOWN to, OUTSIDE", x.aim(0, 2, 5), Checks.UNKNOWN);
        checks.due("be: UNKNOWN, OUTSIDE", x.be(5, 5), Checks.UNKNOWN);
        checks.due("walk: OUTSIDE, STATE", none.walk(-1), Checks.OUTSIDE);
        checks.due("fold: OUTSIDE, STATE", none.fold(4), Checks.OUTSIDE);
        checks.due("mend: OUTSIDE, STATE", none.mend(2), Checks.OUTSIDE);
        checks.due("see: UNKNOWN, OUTSIDE, FULL", x.see(5, 4, 3), Checks.UNKNOWN);
        checks.due("see: UNKNOWN, FULL", x.see(5, 1, 0), Checks.UNKNOWN);
        checks.due("see: OUTSIDE visit, FULL", x.see(0, 4, 0), Checks.OUTSIDE);
        checks.due("see: OUTSIDE did, FULL", x.see(0, 1, 3), Checks.OUTSIDE);
        for (int time = 2; time <= 5; time++) {
            x.mend(0);
        }
        checks.due("mend: OUTSIDE, told 5 times", x.mend(2), Checks.OUTSIDE);
        FlowFold full = Checks.paged("~".repeat(34));
        checks.due("letter: OUTSIDE, FULL", full.letter(31), Checks.OUTSIDE);
        checks.due("letter: OUTSIDE above, FULL", full.letter(127), Checks.OUTSIDE);
    }

    private static IntSupplier[] refusals(FlowFold x) {
        return new IntSupplier[] {
            () -> x.letter(31), () -> x.letter(127), x::graph, () -> x.node(5, 0), () -> x.node(0, 10),
            () -> x.as(5, 0), () -> x.as(0, 5), () -> x.dominates(5, 0), () -> x.dominates(0, 5), () -> x.edge(5, 0),
            () -> x.edge(0, 2), () -> x.aim(5, 0, 0), () -> x.aim(0, 0, 5), () -> x.aim(0, 2, 0), () -> x.be(5, 0),
            () -> x.be(0, 5), () -> x.walk(-1), () -> x.visit(30), () -> x.sign(99), () -> x.fold(4), () -> x.mend(2),
            () -> x.see(5, 1, 0), () -> x.see(0, 4, 0), () -> x.see(0, 1, 3), () -> x.see(0, 1, 0),
            () -> x.drawn(9, 0, 0), () -> x.drawn(1, -1, 0), () -> x.drawn(1, 0, 3), () -> x.count(12)};
    }

    @Says(promise = 0, words = "UNKNOWN (a number names nothing), OUTSIDE (it is not as told), STATE (as told), FULL; they"
        + " change nothing.")
    static void refusalsChangeNothing(Checks checks) {
        FlowFold untouched = rich();
        long before = untouched.digest();
        untouched.restore();
        long restored = untouched.digest();
        int many = refusals(new FlowFold()).length;
        for (int i = 0; i < many; i++) {
            FlowFold x = rich();
            int told = refusals(x)[i].getAsInt();
            checks.due("refusal " + i + " is one", told <= Checks.UNKNOWN && told >= Checks.FULL ? 1 : 0, 1);
            checks.due("digest() behind refusal " + i, x.digest(), before);
            checks.due("restore() behind refusal " + i, x.restore(), 5);
            checks.due("the IMAGE behind refusal " + i, x.digest(), restored);
        }
    }
}
