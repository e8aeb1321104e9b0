import java.math.BigInteger;
import java.util.ArrayList;
import java.util.List;

/** Each sentence of the promises 12 to 23 that names a bound: WALKS, the FOLD, what is SEEN, what is told of all. */
public final class FoldCallsBoundsTest {
    private static final String LOOPED = "f14,f23,n1,n4,e,n0";
    private static final String BAD = "f12,n2,n1";

    public static void main(String[] args) throws Exception {
        Sentences.run(FoldCallsBoundsTest.class);
    }

    @Says(promise = 12, words = "A WALK by an INPUT (0 at least): how many visits.")
    static void walks(Checks checks) {
        FlowFold x = Checks.read("f01,e");
        checks.due("walk(0)", x.walk(0), 30);
        checks.due("walk(1)", x.walk(1), 2);
        checks.due("walk(2^28)", x.walk(1 << 28), 30);
        checks.due("walk(HIGH)", x.walk(Checks.HIGH), 2);
        checks.due("the least one", Checks.read("e").walk(0), 1);
    }

    @Says(promise = 12, words = "OUTSIDE; STATE: no GRAPH.")
    static void walkRefused(Checks checks) {
        FlowFold x = Checks.read("f01,e");
        x.walk(2);
        checks.refusedBeyond(0, Checks.HIGH, x, "walk", x::walk, Checks.OUTSIDE);
        checks.due("the latest WALK stays", x.visit(2), 1);
        FlowFold none = new FlowFold();
        checks.refused(none, "no GRAPH", () -> none.walk(0), Checks.STATE);
        checks.refused(none, "no GRAPH, HIGH", () -> none.walk(Checks.HIGH), Checks.STATE);
        checks.refusedBeyond(0, Checks.HIGH, none, "walk of no GRAPH", none::walk, Checks.OUTSIDE);
    }

    @Says(promise = 13, words = "The NODE of a visit (from 0) of the latest WALK.")
    static void latestVisits(Checks checks) {
        FlowFold x = Checks.read("f01,e");
        x.walk(0);
        checks.due("the first of 30", x.visit(0), 0);
        checks.due("the last of 30", x.visit(29), 0);
        x.walk(1);
        checks.due("the last of 2", x.visit(1), 1);
        checks.due("the WALK ahead of it is gone", x.visit(2), Checks.UNKNOWN);
        x.be(0, 2);
        x.aim(0, 1, 0);
        checks.due("it stays, though the GRAPH changes", x.visit(1), 1);
    }

    @Says(promise = 13, words = "UNKNOWN: there were not so many.")
    static void visitRefused(Checks checks) {
        FlowFold x = Checks.read("n1,n2,e");
        checks.refusedBeyond(0, -1, x, "visit of no WALK", x::visit, Checks.UNKNOWN);
        checks.refused(x, "visit(0) of no WALK", () -> x.visit(0), Checks.UNKNOWN);
        x.walk(0);
        checks.refusedBeyond(0, 2, x, "visit of three", x::visit, Checks.UNKNOWN);
        x.aim(1, 0, 0);
        x.walk(0);
        checks.refusedBeyond(0, 29, x, "visit of 30", x::visit, Checks.UNKNOWN);
        Checks.write(x, "n0");
        x.graph();
        checks.refused(x, "visit(0) of another GRAPH", () -> x.visit(0), Checks.UNKNOWN);
        FlowFold none = new FlowFold();
        none.walk(0);
        checks.refused(none, "visit(0) of no GRAPH", () -> none.visit(0), Checks.UNKNOWN);
    }

    @Says(promise = 14, words = "The so-manieth SIGN (from 0) of the FOLD.")
    static void firstAndLastSign(Checks checks) {
        FlowFold x = Checks.read("f11,f22,f33,f44,f55,f66,f77,f67");
        checks.due("the first of 58", x.sign(0), 201);
        checks.due("the second", x.sign(1), 0);
        checks.due("the last", x.sign(57), 300);
        x.be(0, 2);
        checks.due("the only one", x.sign(0), 0);
    }

    @Says(promise = 14, words = "UNKNOWN: there are not so many (also: no GRAPH, or it cannot be FOLDED).")
    static void signRefused(Checks checks) {
        FlowFold x = Checks.read("f11,f22,f33,f44,f55,f66,f77,f67");
        checks.refusedBeyond(0, 57, x, "sign of 58", x::sign, Checks.UNKNOWN);
        x.be(0, 2);
        checks.refusedBeyond(0, 0, x, "sign of one", x::sign, Checks.UNKNOWN);
        FlowFold none = new FlowFold();
        checks.refused(none, "sign(0) of no GRAPH", () -> none.sign(0), Checks.UNKNOWN);
        checks.refusedBeyond(0, -1, none, "sign of no GRAPH", none::sign, Checks.UNKNOWN);
        FlowFold bad = Checks.read(LOOPED);
        bad.aim(0, 1, 2);
        checks.refused(bad, "sign(0) of one that cannot be FOLDED", () -> bad.sign(0), Checks.UNKNOWN);
        checks.refusedBeyond(0, -1, bad, "sign of one that cannot be FOLDED", bad::sign, Checks.UNKNOWN);
        bad.aim(0, 1, 4);
        checks.due("it can be again", bad.sign(0), 204);
    }

    private static void folds(Checks checks, String text, int... answers) {
        FlowFold x = Checks.read(text);
        for (int what = 0; what <= 3; what++) {
            checks.due(text + " fold(" + what + ")", x.fold(what), answers[what]);
        }
    }

    @Says(promise = 15, words = "what = 0 how many SIGNS, 1 how many ways out (500 and more), 2 the sum of their DEPTHS,"
        + " 3 how many LOOPS and BLOCKS are open at once at most")
    static void foldTold(Checks checks) {
        folds(checks, "e", 1, 0, 0, 0);
        folds(checks, "n1,n2,n3,n4,n5,n6,n7,e", 8, 0, 0, 0);
        folds(checks, "f11,f22,f33,f44,f55,f66,f77,f67", 58, 16, 1, 2);
        folds(checks, "f10,f21,f32,f43,f54,f65,f76,f70", 49, 9, 7, 8);
        folds(checks, "f17,f21,f32,f43,f54,f65,f76,e", 44, 8, 6, 7);
        // One behind the other they are not open at once.
        folds(checks, "f12,n1,n2", 11, 2, 0, 1);
        // Of the FOLD ahead of it nothing is left.
        FlowFold x = Checks.read("f10,f21,f32,f43,f54,f65,f76,f70");
        x.be(0, 2);
        for (int what = 0; what <= 3; what++) {
            checks.due("a STOP then, fold(" + what + ")", x.fold(what), what == 0 ? 1 : 0);
        }
    }

    @Says(promise = 15, words = "NONE: it cannot be FOLDED.")
    static void foldNone(Checks checks) {
        folds(checks, BAD, Checks.NONE, Checks.NONE, Checks.NONE, Checks.NONE);
        folds(checks, "f31,f32,f13,f12", Checks.NONE, Checks.NONE, Checks.NONE, Checks.NONE);
    }

    @Says(promise = 15, words = "OUTSIDE; STATE: no GRAPH.")
    static void foldRefused(Checks checks) {
        FlowFold x = Checks.read(LOOPED);
        checks.refusedBeyond(0, 3, x, "fold", x::fold, Checks.OUTSIDE);
        FlowFold bad = Checks.read(BAD);
        checks.refusedBeyond(0, 3, bad, "fold of one that cannot be FOLDED", bad::fold, Checks.OUTSIDE);
        FlowFold none = new FlowFold();
        checks.refusedBeyond(0, 3, none, "fold of no GRAPH", none::fold, Checks.OUTSIDE);
        for (int what = 0; what <= 3; what++) {
            int told = what;
            checks.refused(none, "fold(" + what + ") of no GRAPH", () -> none.fold(told), Checks.STATE);
        }
    }

    @Says(promise = 16, words = "MEND: what = 0 how many, 1 which, as bits; NONE.")
    static void mendTold(Checks checks) {
        String[] texts = {"e", LOOPED, BAD, "f31,f32,f13,f12", "f76,n2,f11,f24,f46,e,n7,f13"};
        int[] many = {0, 0, 1, 2, 1};
        int[] which = {0, 0, 1, 3, 32768};
        for (int i = 0; i < texts.length; i++) {
            FlowFold x = Checks.read(texts[i]);
            int edges = x.count(2);
            checks.due(texts[i] + " mend(0)", x.mend(0), many[i]);
            checks.due(texts[i] + " mend(1)", x.mend(1), which[i]);
            checks.due("nothing is left out by it", x.count(2), edges);
        }
        // It is told of the GRAPH as it is now, whatever was drawn or looked at since.
        FlowFold x = Checks.read(BAD);
        x.aim(0, 1, 1);
        checks.due("it can be FOLDED now", x.mend(0), 0);
        x.aim(0, 1, 2);
        x.drawn(8, 5, 0);
        Checks.write(x, "e");
        x.fault();
        checks.due("it cannot any more", x.mend(0), 1);
        x.graph();
        checks.due("another one can", x.mend(1), 0);
    }

    @Says(promise = 16, words = "OUTSIDE; STATE: no GRAPH, or mend() was told 5 times (refusals are none of them).")
    static void mendRefused(Checks checks) {
        FlowFold x = new FlowFold();
        checks.refused(x, "mend(0) of no GRAPH", () -> x.mend(0), Checks.STATE);
        checks.refused(x, "mend(1) of no GRAPH", () -> x.mend(1), Checks.STATE);
        checks.refusedBeyond(0, 1, x, "mend of no GRAPH", x::mend, Checks.OUTSIDE);
        Checks.write(x, BAD);
        x.graph();
        for (int time = 1; time <= 5; time++) {
            checks.refusedBeyond(0, 1, x, "mend", x::mend, Checks.OUTSIDE);
            checks.due("mend, time " + time, x.mend(time % 2), 1);
            checks.due("how often", x.count(11), time);
        }
        checks.refused(x, "mend(0), a sixth time", () -> x.mend(0), Checks.STATE);
        checks.refused(x, "mend(1), a sixth time", () -> x.mend(1), Checks.STATE);
        checks.refusedBeyond(0, 1, x, "mend behind five", x::mend, Checks.OUTSIDE);
        checks.due("how often at last", x.count(11), 5);
    }

    @Says(promise = 17, words = "It is SEEN: how much is.")
    static void howMuchIsSeen(Checks checks) {
        FlowFold x = Checks.read("e,e,e,e,e,e,e,e");
        checks.due("the first", x.see(7, 3, 2), 1);
        checks.due("the same again", x.see(7, 3, 2), 2);
        checks.due("of another NODE", x.see(0, 1, 0), 3);
        checks.due("count(8)", x.count(8), 3);
        checks.due("of the last NODE", x.node(7, 8), 4);
        checks.due("of the first NODE", x.node(0, 8), 27);
    }

    @Says(promise = 17, words = "UNKNOWN: node; OUTSIDE: visit (1 to 3), did (0 to 2); FULL.")
    static void seeRefused(Checks checks) {
        FlowFold x = Checks.read("n1,e,e");
        for (int time = 0; time < 2; time++) {
            checks.refusedBeyond(0, 2, x, "see(.., 1, 0)", node -> x.see(node, 1, 0), Checks.UNKNOWN);
            checks.refusedBeyond(0, 2, x, "see(.., 0, 3)", node -> x.see(node, 0, 3), Checks.UNKNOWN);
            checks.refusedBeyond(1, 3, x, "see(0, .., 0)", visit -> x.see(0, visit, 0), Checks.OUTSIDE);
            checks.refusedBeyond(0, 2, x, "see(0, 1, ..)", did -> x.see(0, 1, did), Checks.OUTSIDE);
            for (int many = 1; many <= 6 && time == 0; many++) {
                checks.due("see " + many, x.see(many % 3, 1 + many % 3, many % 2), many);
            }
        }
        checks.refused(x, "a seventh", () -> x.see(0, 1, 0), Checks.FULL);
        checks.refused(x, "a seventh, again", () -> x.see(2, 3, 2), Checks.FULL);
        x.forget();
        checks.due("there is room again", x.see(2, 3, 2), 1);
    }

    @Says(promise = 18, words = "Nothing is SEEN any more: how much was.")
    static void forget(Checks checks) {
        FlowFold x = Checks.read("n0,e");
        for (int many = 0; many <= 6; many++) {
            for (int time = 0; time < many; time++) {
                x.see(1, 1, 2);
            }
            checks.due("SORTS of " + many, x.node(1, 8), many == 0 ? 31 : 4);
            checks.due("forget() of " + many, x.forget(), many);
            checks.due("count(8)", x.count(8), 0);
            checks.due("all SORTS", x.node(1, 8), 31);
        }
        checks.due("forget() again", x.forget(), 0);
        checks.due("forget() of no GRAPH", new FlowFold().forget(), 0);
    }

    @Says(promise = 19, words = "OUTSIDE: times (1 to 8), seed (0 at least), what.")
    static void drawnRefused(Checks checks) {
        FlowFold x = Checks.read(LOOPED);
        checks.refusedBeyond(1, 8, x, "drawn(.., 1, 0)", times -> x.drawn(times, 1, 0), Checks.OUTSIDE);
        checks.refusedBeyond(1, 8, x, "drawn(.., 1, 2)", times -> x.drawn(times, 1, 2), Checks.OUTSIDE);
        checks.refusedBeyond(0, Checks.HIGH, x, "drawn(1, .., 0)", seed -> x.drawn(1, seed, 0), Checks.OUTSIDE);
        checks.refusedBeyond(0, Checks.HIGH, x, "drawn(8, .., 2)", seed -> x.drawn(8, seed, 2), Checks.OUTSIDE);
        checks.refusedBeyond(0, 2, x, "drawn(1, 1, ..)", what -> x.drawn(1, 1, what), Checks.OUTSIDE);
        checks.refusedBeyond(0, 2, x, "drawn(8, 1, ..)", what -> x.drawn(8, 1, what), Checks.OUTSIDE);
        FlowFold none = new FlowFold();
        checks.refusedBeyond(1, 8, none, "drawn(.., 1, 0) of no GRAPH", times -> none.drawn(times, 1, 0), Checks.OUTSIDE);
    }

    @Says(promise = 19, words = "what = 0 how many, 1 how many HEADS, 2 the SEED then")
    static void drawnTold(Checks checks) {
        FlowFold x = new FlowFold();
        // Those for 77 and HIGH are told by the shared test.
        checks.due("drawn(8, 77, 0)", x.drawn(8, 77, 0), 8);
        checks.due("drawn(8, 77, 1)", x.drawn(8, 77, 1), 12);
        checks.due("drawn(8, 77, 2)", x.drawn(8, 77, 2), 546260757);
        checks.due("drawn(1, HIGH, 2)", x.drawn(1, Checks.HIGH, 2), 652027854);
        // Two of four are those of the first two, then those of the SEED then.
        int then = x.drawn(2, 0, 2);
        for (int what = 0; what <= 1; what++) {
            checks.due("four, what " + what, x.drawn(4, 0, what), x.drawn(2, 0, what) + x.drawn(2, then, what));
        }
        checks.due("the SEED behind four", x.drawn(4, 0, 2), x.drawn(2, then, 2));
    }

    @Says(promise = 20, words = "An IMAGE is kept (one; the latest): how many NODES.")
    static void oneImage(Checks checks) {
        FlowFold x = Checks.read("n1,e");
        checks.due("image()", x.image(), 2);
        x.be(0, 1);
        x.see(0, 1, 1);
        checks.due("image() again", x.image(), 2);
        x.be(0, 2);
        x.forget();
        for (int time = 1; time <= 2; time++) {
            checks.due("restore(), time " + time, x.restore(), 2);
            checks.due("the latest KIND", x.node(0, 0), 1);
            checks.due("what was SEEN", x.count(8), 1);
        }
        checks.due("image() of one NODE", Checks.read("e").image(), 1);
        checks.due("image() of eight", Checks.read("e,e,e,e,e,e,e,e").image(), 8);
        long before = x.digest();
        x.image();
        checks.due("nothing else changes", x.digest(), before);
    }

    @Says(promise = 20, words = "STATE: no GRAPH.")
    static void imageRefused(Checks checks) {
        FlowFold x = Checks.paged("n1");
        checks.refused(x, "image()", x::image, Checks.STATE);
        checks.refused(x, "graph() that is none", x::graph, Checks.STATE);
        checks.refused(x, "image() still", x::image, Checks.STATE);
        checks.refused(x, "nothing was kept", x::restore, Checks.STATE);
    }

    @Says(promise = 21, words = "It goes on from the IMAGE: how many NODES.")
    static void goesOnFromImage(Checks checks) {
        FlowFold x = Checks.read("f77,f01,f12,f23,f34,f45,f56,f67");
        // Of each SEEN its NODE, its visit and what was done tells.
        for (int time = 0; time < 6; time++) {
            x.see(7 - time, 1 + time % 3, time / 3);
        }
        x.image();
        long before = x.digest();
        for (int node = 0; node < 8; node++) {
            x.aim(node, 0, 0);
            x.aim(node, 1, 0);
            x.be(node, 2);
        }
        x.forget();
        for (int time = 0; time < 6; time++) {
            x.see(time, 1 + (time + 1) % 3, 2);
        }
        checks.due("restore()", x.restore(), 8);
        checks.due("all is as it was", x.digest(), before);
        checks.due("what is SEEN is full again", x.see(0, 1, 0), Checks.FULL);
        checks.due("restore() at once again", x.restore(), 8);
        checks.due("all is as it was, still", x.digest(), before);
    }

    @Says(promise = 21, words = "STATE: none was kept, or there is another GRAPH since.")
    static void restoreRefused(Checks checks) {
        FlowFold none = new FlowFold();
        checks.refused(none, "no GRAPH", none::restore, Checks.STATE);
        FlowFold x = Checks.read("n1,e");
        checks.refused(x, "none was kept", x::restore, Checks.STATE);
        x.image();
        Checks.write(x, "n1");
        checks.refused(x, "what is no GRAPH", x::graph, Checks.STATE);
        checks.due("is no other one", x.restore(), 2);
        Checks.write(x, ",e");
        checks.due("the same text", x.graph(), 2);
        checks.refused(x, "is another GRAPH", x::restore, Checks.STATE);
        x.image();
        checks.due("with an IMAGE of its own", x.restore(), 2);
        Checks.write(x, "e");
        x.graph();
        checks.refused(x, "and another one", x::restore, Checks.STATE);
    }

    @Says(promise = 22, words = "7 visits of the latest WALK (0: none since the GRAPH was read)")
    static void noWalkSince(Checks checks) {
        FlowFold x = Checks.read("f01,e");
        checks.due("none yet", x.count(7), 0);
        x.walk(0);
        checks.due("the most", x.count(7), 30);
        x.walk(1);
        checks.due("the latest", x.count(7), 2);
        Checks.write(x, "n7");
        x.graph();
        checks.due("a refused GRAPH was not read", x.count(7), 2);
        x.blank();
        Checks.write(x, "n0");
        x.graph();
        checks.due("none since", x.count(7), 0);
    }

    @Says(promise = 22, words = "How many: 0 NODES, 1 REACHED, 2 EDGES of REACHED ones, 3 BACK, 4 BAD, 5 HEADS, 6 MERGES")
    static void leastAndMost(Checks checks) {
        counts(checks, "e,n0", 2, 1, 0, 0, 0, 0, 0);
        counts(checks, "f00", 1, 1, 2, 2, 0, 1, 0);
        counts(checks, "f11,f22,f33,f44,f55,f66,f77,f00", 8, 8, 16, 2, 0, 1, 7);
        counts(checks, "f10,f21,f32,f43,f54,f65,f76,f77", 8, 8, 16, 9, 0, 8, 0);
        counts(checks, "f12,n2,n1,n0", 4, 3, 4, 0, 1, 0, 1);
        // The ORDER is 0, 3, 1, 2; each but 0 has ways in from two others, so none of the three that retreat is BACK.
        counts(checks, "f31,f32,f13,f12", 4, 4, 8, 0, 3, 0, 2);
    }

    private static void counts(Checks checks, String text, int... answers) {
        FlowFold x = Checks.read(text);
        for (int what = 0; what < answers.length; what++) {
            checks.due(text + " count(" + what + ")", x.count(what), answers[what]);
        }
    }

    @Says(promise = 22, words = "8 what is SEEN, 9 letters of THE PAGE")
    static void noneToFull(Checks checks) {
        FlowFold x = Checks.read("n0");
        for (int many = 0; many <= 7; many++) {
            checks.due("count(8)", x.count(8), Math.min(many, 6));
            x.see(0, 1, 0);
        }
        for (int many = 0; many <= 35; many++) {
            checks.due("count(9)", x.count(9), Math.min(many, 34));
            x.letter('e');
        }
    }

    @Says(promise = 22, words = "10 how often a GRAPH was read, 11 how often mend() was told")
    static void howOften(Checks checks) {
        FlowFold x = Checks.paged("n1");
        x.graph();
        x.mend(0);
        checks.due("what was refused was not read", x.count(10), 0);
        checks.due("nor told", x.count(11), 0);
        Checks.write(x, ",e");
        for (int time = 1; time <= 3; time++) {
            x.graph();
            x.mend(0);
            checks.due("how often read", x.count(10), time);
            checks.due("how often told", x.count(11), time);
            Checks.write(x, "n1,e");
        }
    }

    @Says(promise = 22, words = "OUTSIDE.")
    static void countRefused(Checks checks) {
        FlowFold x = Checks.read(LOOPED);
        checks.refusedBeyond(0, 11, x, "count", x::count, Checks.OUTSIDE);
        FlowFold none = new FlowFold();
        checks.refusedBeyond(0, 11, none, "count of no GRAPH", none::count, Checks.OUTSIDE);
    }

    // The numbers of the document, told by the other calls.
    private static List<Integer> told(FlowFold x, String page) {
        List<Integer> all = new ArrayList<>();
        for (int node = 0; node < x.count(0); node++) {
            for (int what = 0; what <= 9; what++) {
                all.add(x.node(node, what));
            }
            all.add(x.edge(node, 0));
            all.add(x.edge(node, 1));
        }
        for (int what = 0; what <= 3 && x.count(0) > 0; what++) {
            all.add(x.fold(what));
        }
        for (int sign = 0; sign < x.fold(0); sign++) {
            all.add(x.sign(sign));
        }
        for (int visit = 0; visit < x.count(7); visit++) {
            all.add(x.visit(visit));
        }
        page.chars().forEach(all::add);
        for (int what = 0; what <= 11; what++) {
            all.add(x.count(what));
        }
        return all;
    }

    @Says(promise = 23, words = "h is 1381, then for each of these numbers, in order, 31 times h, and it (as longs,"
        + " wrapping): of each NODE what node() tells for 0 to 9, edge() for 0 and 1")
    static void digestWraps(Checks checks) {
        String full = "e,e,e,e,e,e,e,e,~~~~~~~~~~~~~~~~~~";
        for (String text : new String[] {"e", "n0", BAD, "f11,f22,f33,f44,f55,f66,f77,f67", LOOPED}) {
            FlowFold x = Checks.read(text);
            x.walk(2);
            x.see(0, 1, 2);
            Checks.write(x, full);
            BigInteger h = BigInteger.valueOf(1381);
            for (int number : told(x, full)) {
                h = h.multiply(BigInteger.valueOf(31)).add(BigInteger.valueOf(number));
            }
            checks.due("digest() of " + text, x.digest(), h.longValue());
            checks.due("digest() again", x.digest(), h.longValue());
        }
    }

    @Says(promise = 23, words = "with a GRAPH fold() for 0 to 3; all SIGNS of the FOLD; all visits of the latest WALK;"
        + " letters of THE PAGE; what count() tells for 0 to 11.")
    static void digestOfNothing(Checks checks) {
        long h = 1381;
        for (int what = 0; what <= 11; what++) {
            h = 31 * h;
        }
        checks.due("no GRAPH, no letter: twelve numbers", new FlowFold().digest(), h);
        // One that cannot be FOLDED tells NONE four times, and has no SIGNS.
        int[] numbers = {1, 1, 2, 0, -1, 0, 0, 3, 31, 2, 0, 0, 0, 2, 0, 1, 0, 0, 0, 1, 31, 2, 0, -1,
            0, 1, 0, 2, 0, 0, 1, 1, 31, 2, 2, -1, -1, -1, -1, -1, 3, 3, 4, 0, 1, 0, 1, 0, 0, 0, 1, 0};
        long bad = 1381;
        for (int number : numbers) {
            bad = 31 * bad + number;
        }
        checks.due("one that cannot be FOLDED", Checks.read(BAD).digest(), bad);
    }
}
