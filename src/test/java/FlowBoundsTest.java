/** Each sentence of 'Terms', 2, that names a bound: of what is REACHED, of ORDER, LORDS, EDGES, the FOLD and MEND. */
public final class FlowBoundsTest {
    public static void main(String[] args) throws Exception {
        Sentences.run(FlowBoundsTest.class);
    }

    private static void nodes(Checks checks, String text, int what, int... answers) {
        FlowFold x = Checks.read(text);
        for (int node = 0; node < answers.length; node++) {
            checks.due(text + " node(" + node + ", " + what + ")", x.node(node, what), answers[node]);
        }
    }

    @Says(promise = 0, words = "REACHED are NODE 0 and all to which EDGES lead from REACHED ones.")
    static void reached(Checks checks) {
        checks.due("NODE 0 alone", Checks.read("e,n0,n1").count(1), 1);
        checks.due("NODE 0 by itself", Checks.read("n0,n0").count(1), 1);
        checks.due("all, one behind the other", Checks.read("n1,n2,n3,n4,n5,n6,n7,n0").count(1), 8);
        checks.due("all, by halves", Checks.read("f12,f34,f56,n7,e,e,e,e").count(1), 8);
        checks.due("two that lead to one another are not", Checks.read("e,n2,n1").count(1), 1);
        nodes(checks, "n2,n3,e,n0", 3, 0, Checks.NONE, 1, Checks.NONE);
        nodes(checks, "n2,n3,e,n0", 7, 2, 0, 1, 0);
    }

    @Says(promise = 0, words = "The ORDER of these is the one in which they stand from the last to be DONE back")
    static void lastDoneIsFirst(Checks checks) {
        // DONE are 1, 2, 0; then 4, 3, 2, 1, 0; then 3, 1, 4, 2, 0.
        nodes(checks, "f12,e,e", 3, 0, 2, 1);
        nodes(checks, "n1,n2,n3,n4,e", 3, 0, 1, 2, 3, 4);
        nodes(checks, "f12,n3,n4,e,e", 3, 0, 3, 1, 4, 2);
        nodes(checks, "f11,f22,f33,f44,f55,f66,f77,f00", 3, 0, 1, 2, 3, 4, 5, 6, 7);
        // 5 has no place, and takes none from the others.
        nodes(checks, "f12,n3,n4,e,e,n0", 3, 0, 3, 1, 4, 2, Checks.NONE);
    }

    @Says(promise = 0, words = "to DO a NODE is to DO its FIRST (if that is an EDGE, and the NODE there was not begun yet),"
        + " then its SECOND likewise, then it is DONE; it begins with NODE 0 (place 0 of the ORDER)")
    static void order(Checks checks) {
        nodes(checks, "e", 3, 0);
        nodes(checks, "f00", 3, 0);
        nodes(checks, "f12,e,e", 3, 0, 2, 1);
        nodes(checks, "f21,e,e", 3, 0, 1, 2);
        nodes(checks, "f11,e", 3, 0, 1);
        // Its SECOND was begun by way of its FIRST, or the other way round.
        nodes(checks, "f12,n2,e", 3, 0, 1, 2);
        nodes(checks, "f12,e,n1", 3, 0, 2, 1);
        nodes(checks, "f01,f10", 3, 0, 1);
        nodes(checks, "f12,f20,f01", 3, 0, 1, 2);
        nodes(checks, "n7,n0,n1,n2,n3,n4,n5,n6", 3, 0, 7, 6, 5, 4, 3, 2, 1);
        FlowFold x = Checks.read("n1,e,e");
        x.aim(0, 1, 2);
        x.aim(1, 0, 2);
        checks.due("what is no EDGE leads nowhere", x.node(2, 3), Checks.NONE);
    }

    @Says(promise = 0, words = "A DOMINATES B (both REACHED), if all ways from NODE 0 to B lead over A (also A itself).")
    static void dominates(Checks checks) {
        FlowFold x = Checks.read("f12,n3,n3,n4,e,n6,n5");
        for (int node = 0; node <= 6; node++) {
            checks.due(node + " itself", x.dominates(node, node), node <= 4 ? 1 : 0);
            checks.due("NODE 0 and " + node, x.dominates(0, node), node <= 4 ? 1 : 0);
        }
        checks.due("there is a way round 1", x.dominates(1, 3), 0);
        checks.due("there is a way round 2", x.dominates(2, 4), 0);
        checks.due("there is none round 3", x.dominates(3, 4), 1);
        checks.due("4 is not ahead of 3", x.dominates(4, 3), 0);
        checks.due("neither is REACHED", x.dominates(5, 6), 0);
        checks.due("one is not REACHED", x.dominates(5, 4), 0);
        x.be(3, 2);
        checks.due("no more REACHED itself", x.dominates(4, 4), 0);
        checks.due("nor by the one ahead of it", x.dominates(3, 4), 0);
        // The way round 1 comes over an EDGE that RETREATS, from the NODE that is DONE first.
        FlowFold y = Checks.read("f13,n2,n3,n2");
        checks.due("round 1, to 2", y.dominates(1, 2), 0);
        checks.due("round 2, to 3", y.dominates(2, 3), 0);
        // The way round 1 comes over the last one in the ORDER: what is behind 2 has to be looked at again.
        FlowFold z = Checks.read("f14,n2,f43,e,n2");
        checks.due("round 1, to 2", z.dominates(1, 2), 0);
        checks.due("round 1, to 3", z.dominates(1, 3), 0);
        checks.due("none round 2", z.dominates(2, 3), 1);
        // The same with a STOP behind that one.
        FlowFold w = Checks.read("f14,n2,f43,e,f25,e");
        checks.due("round 1, to 2", w.dominates(1, 2), 0);
        checks.due("round 1, to 3", w.dominates(1, 3), 0);
        checks.due("none round 4, to 5", w.dominates(4, 5), 1);
    }

    @Says(promise = 0, words = "The LORD of B is that of those that DOMINATE B, without B, that all others of these"
        + " DOMINATE; NODE 0 has none.")
    static void lord(Checks checks) {
        nodes(checks, "e", 4, Checks.NONE);
        nodes(checks, "n0", 4, Checks.NONE);
        nodes(checks, "n1,n0", 4, Checks.NONE, 0);
        // Of seven that DOMINATE it, the nearest one.
        nodes(checks, "n1,n2,n3,n4,n5,n6,n7,n0", 4, Checks.NONE, 0, 1, 2, 3, 4, 5, 6);
        nodes(checks, "f12,n3,n3,n4,e,n0", 4, Checks.NONE, 0, 0, 0, 3, Checks.NONE);
    }

    @Says(promise = 0, words = "RETREATS, if it leads to a NODE that is not behind its own in the ORDER")
    static void retreats(Checks checks) {
        checks.due("to itself", Checks.read("n0").edge(0, 0), 1);
        checks.due("to the next one", Checks.read("n1,e").edge(0, 0), 0);
        FlowFold x = Checks.read("f12,n2,f01");
        checks.due("to the one ahead of it", x.edge(2, 1), 2);
        checks.due("to the first one", x.edge(2, 0), 1);
        checks.due("past one", x.edge(0, 1), 0);
    }

    @Says(promise = 0, words = "it is BACK, if it leads to a NODE that DOMINATES its own; it is BAD, if it RETREATS and is"
        + " not BACK")
    static void backOrBad(Checks checks) {
        FlowFold both = Checks.read("f00");
        checks.due("two of one NODE", both.count(3), 2);
        checks.due("none of it is BAD", both.count(4), 0);
        FlowFold x = Checks.read("f12,n2,n1");
        checks.due("BAD", x.edge(2, 0), 2);
        checks.due("one is BAD", x.count(4), 1);
        checks.due("none is BACK", x.count(3), 0);
        x.aim(0, 1, 1);
        checks.due("with one way in it is BACK", x.edge(2, 0), 1);
        checks.due("none is BAD", x.count(4), 0);
        checks.due("one is BACK", x.count(3), 1);
    }

    @Says(promise = 0, words = "A HEAD is a NODE to which an EDGE that is BACK leads.")
    static void heads(Checks checks) {
        nodes(checks, "n1,e", 5, 0, 0);
        nodes(checks, "n0", 5, 1);
        checks.due("one HEAD, though two lead back", Checks.read("f00").count(5), 1);
        checks.due("all are", Checks.read("f10,f21,f32,f43,f54,f65,f76,n7").count(5), 8);
        // What is BAD makes none, nor what is not REACHED.
        nodes(checks, "f12,n2,n1,n3", 5, 0, 0, 0, 0);
    }

    @Says(promise = 0, words = "A MERGE is one to which two or more EDGES lead that do not RETREAT.")
    static void merges(Checks checks) {
        nodes(checks, "n1,e", 6, 0, 0);
        nodes(checks, "f11,e", 6, 0, 1);
        nodes(checks, "f12,n2,e", 6, 0, 0, 1);
        nodes(checks, "f12,f33,n3,e", 6, 0, 0, 0, 1);
        // One leads on, one or two retreat; to NODE 0 none can lead on.
        nodes(checks, "n1,n1", 6, 0, 0);
        nodes(checks, "n1,f11", 6, 0, 0);
        nodes(checks, "f00", 6, 0);
        nodes(checks, "f12,n0,n0", 6, 0, 0, 0);
        // One of the two is not REACHED.
        nodes(checks, "n1,e,n1", 6, 0, 0, 0);
    }

    @Says(promise = 0, words = "The GRAPH can be FOLDED, if no EDGE is BAD.")
    static void canBeFolded(Checks checks) {
        FlowFold x = Checks.read("f12,n2,n1");
        checks.due("one is BAD", x.fold(0), Checks.NONE);
        x.be(0, 2);
        checks.due("they are not REACHED", x.fold(0), 1);
        x.be(0, 3);
        checks.due("BAD again", x.fold(0), Checks.NONE);
        x.be(0, 0);
        checks.due("BACK now", x.fold(0), 6);
        checks.due("no EDGE at all", Checks.read("e").fold(0), 1);
    }

    @Says(promise = 0, words = "TREE of X: 100 and X (a LOOP), WITHIN of X, 300, if X is a HEAD; else just WITHIN of X.")
    static void treeOfHead(Checks checks) {
        signs(checks, "e", 0);
        signs(checks, "n0", 100, 0, 500, 300);
        signs(checks, "n1,n1", 0, 101, 1, 500, 300);
        signs(checks, "n7,e,e,e,e,e,e,n7", 0, 107, 7, 500, 300);
    }

    @Says(promise = 0, words = "for each VASSAL V of X that is a MERGE, from the last one in the ORDER to the first one,"
        + " 200 and V (a BLOCK)")
    static void blocksOpened(Checks checks) {
        signs(checks, "n1,e", 0, 1);
        signs(checks, "f11,e", 201, 0, 600, 400, 600, 401, 301, 1);
        // 1 is in the ORDER behind 2, so its BLOCK is the outer one.
        signs(checks, "f34,e,n1,f12,f12",
            201, 202, 0, 3, 601, 400, 600, 401, 400, 4, 601, 400, 600, 401, 401, 301, 2, 600, 301, 1);
    }

    @Says(promise = 0, words = "then for each of these V, from the first one in the ORDER to the last one, 301 and the"
        + " TREE of V.")
    static void blocksClosed(Checks checks) {
        // Of none, of one, of two; 1, the last one in the ORDER, is a LOOP of its own.
        signs(checks, "f12,e,e", 0, 1, 400, 2, 401);
        signs(checks, "t12,n2,n2", 202, 0, 1, 600, 400, 600, 401, 301, 102, 2, 500, 300);
        signs(checks, "f34,n1,n1,f12,f12", 201, 202, 0, 3, 601, 400, 600, 401, 400, 4, 601, 400, 600, 401, 401,
            301, 2, 600, 301, 101, 1, 500, 300);
        // One in the other: 3 is a VASSAL of 2, and 2 one of 0.
        signs(checks, "f12,n2,f33,e", 202, 0, 1, 600, 400, 600, 401, 301, 203, 2, 600, 400, 600, 401, 301, 3);
    }

    @Says(promise = 0, words = "for a STOP nothing; for others the BRANCH to its FIRST, 400, that to its SECOND, 401")
    static void branchesOfKinds(Checks checks) {
        FlowFold x = Checks.read("e,e");
        x.aim(0, 0, 1);
        checks.due("a STOP, whatever is kept", x.fold(0), 1);
        signs(checks, "n1,e", 0, 1);
        for (String kind : new String[] {"f", "x", "t"}) {
            signs(checks, kind + "12,e,e", 0, 1, 400, 2, 401);
        }
    }

    @Says(promise = 0, words = "BRANCH to Y: if the EDGE RETREATS, 500 and its DEPTH (to the LOOP of Y); else, if Y is a"
        + " MERGE, 600 and its DEPTH (out of the BLOCK of Y); else the TREE of Y.")
    static void branches(Checks checks) {
        // 1 is a MERGE and a HEAD: ways to it from outside leave its BLOCK, the one from within goes to its LOOP.
        signs(checks, "f11,f12,e", 201, 0, 600, 400, 600, 401, 301, 101, 1, 500, 400, 2, 401, 300);
        signs(checks, "n1,f02,e", 100, 0, 1, 500, 400, 2, 401, 300);
    }

    @Says(promise = 0, words = "DEPTH is how many LOOPS and BLOCKS are open there within that one (0: it is the"
        + " innermost).")
    static void depth(Checks checks) {
        // Eight LOOPS, one in the other: 7 goes to its own and to the outermost one.
        signs(checks, "f10,f21,f32,f43,f54,f65,f76,f70",
            100, 0, 101, 1, 102, 2, 103, 3, 104, 4, 105, 5, 106, 6, 107, 7, 500, 400, 507, 401, 300,
            400, 500, 401, 300, 400, 500, 401, 300, 400, 500, 401, 300, 400, 500, 401, 300,
            400, 500, 401, 300, 400, 500, 401, 300, 400, 500, 401, 300);
        // Six LOOPS in a BLOCK.
        signs(checks, "f17,f21,f32,f43,f54,f65,f76,e",
            207, 0, 101, 1, 102, 2, 103, 3, 104, 4, 105, 5, 106, 6, 606, 400, 500, 401, 300,
            400, 500, 401, 300, 400, 500, 401, 300, 400, 500, 401, 300, 400, 500, 401, 300, 400, 500, 401, 300,
            400, 600, 401, 301, 7);
        // A BLOCK in a LOOP, a LOOP in a BLOCK: both count.
        signs(checks, "f12,n2,f02", 100, 202, 0, 1, 600, 400, 600, 401, 301, 102, 2, 501, 400, 500, 401, 300, 300);
        signs(checks, "f12,f12,e", 202, 0, 101, 1, 500, 400, 601, 401, 300, 400, 600, 401, 301, 2);
    }

    @Says(promise = 0, words = "The FOLD is a row of SIGNS, the TREE of NODE 0.")
    static void longestFold(Checks checks) {
        // All but NODE 0 are a MERGE, two are HEADS: each of 16 EDGES is a way out, and no FOLD is longer.
        signs(checks, "f11,f22,f33,f44,f55,f66,f77,f67",
            201, 0, 600, 400, 600, 401, 301, 202, 1, 600, 400, 600, 401, 301, 203, 2, 600, 400, 600, 401, 301,
            204, 3, 600, 400, 600, 401, 301, 205, 4, 600, 400, 600, 401, 301, 206, 5, 600, 400, 600, 401, 301,
            106, 207, 6, 600, 400, 600, 401, 301, 107, 7, 501, 400, 500, 401, 300, 300);
        signs(checks, "e,n0,n1,n2,n3,n4,n5,n6", 0);
    }

    private static void signs(Checks checks, String text, int... signs) {
        FlowFold x = Checks.read(text);
        checks.due(text + " fold(0)", x.fold(0), signs.length);
        for (int i = 0; i < signs.length; i++) {
            checks.due(text + " sign(" + i + ")", x.sign(i), signs[i]);
        }
        checks.due(text + " sign behind", x.sign(signs.length), Checks.UNKNOWN);
    }

    @Says(promise = 0, words = "the fewest EDGES (of REACHED NODES, three at most), without which the GRAPH can be FOLDED")
    static void fewestToMend(Checks checks) {
        mend(checks, "e", 0, 0);
        mend(checks, "f00", 0, 0);
        mend(checks, "f12,n2,n1", 1, 1);
        // What is BAD is not REACHED.
        mend(checks, "e,f23,n3,n2", 0, 0);
        // Two circles with two ways into each; more than the two ends of NODE 0 no GRAPH needs.
        mend(checks, "f12,f34,f56,n4,n3,n6,n5", 2, 3);
        mend(checks, "f31,f32,f13,f12", 2, 3);
    }

    @Says(promise = 0, words = "(a NODE goes on by those that are left as told above)")
    static void goesOnByThoseLeft(Checks checks) {
        // Were a NODE without its FIRST a STOP, one EDGE of 0 were enough.
        mend(checks, "f12,f34,f56,n4,n3,n6,n5", 2, 3);
        // Without its FIRST 0 goes on to 2 all the same: what is behind that stays BAD.
        mend(checks, "f12,e,f34,n4,n3", 1, 2);
        mend(checks, "f21,e,f34,n4,n3", 1, 1);
    }

    @Says(promise = 0, words = "which, as bits of twice the NODE, and 1 more for its SECOND: of as many the least; none.")
    static void leastToMend(Checks checks) {
        // For each EDGE that there can be a GRAPH that it mends, and no EDGE with a lesser bit does.
        String[] texts = {"f12,n2,n1", "f02,n3,f31,n1", "f22,n3,f31,n1", "f33,f32,n1,f12", "f22,f33,f31,n1",
            "f33,f22,f21,f21", "f33,f22,f11,f12", "f44,n4,f33,f02,f23", "f44,f22,f11,e,f21", "f14,f43,f13,f12,f02",
            "f25,f32,f35,f25,e,n1", "f34,n5,f13,n4,f51,f42", "f41,f42,f14,e,f66,f12,n5", "f16,n6,f51,f40,n5,n4,f32",
            "f74,f45,e,f41,f51,n7,n6,f32", "f76,n2,f11,f24,f46,e,n7,f13"};
        for (int bit = 0; bit < texts.length; bit++) {
            checks.due(texts[bit] + " folds", Checks.read(texts[bit]).fold(0), Checks.NONE);
            for (int other = 0; other <= bit; other++) {
                boolean folds = without(texts[bit], other).fold(0) != Checks.NONE;
                checks.due(texts[bit] + " without bit " + other, folds ? 1 : 0, other == bit ? 1 : 0);
            }
            mend(checks, texts[bit], 1, 1 << bit);
        }
    }

    // A NODE with one EDGE left goes straight on by it, one with none is a STOP.
    private static FlowFold without(String text, int bit) {
        FlowFold x = Checks.read(text);
        int node = bit / 2;
        int kind = x.node(node, 0);
        if (kind == 0 && bit % 2 == 0) {
            x.be(node, 2);
        } else if (kind != 0 && kind != 2) {
            x.aim(node, 0, x.node(node, bit % 2 == 0 ? 2 : 1));
            x.be(node, 0);
        }
        return x;
    }

    private static void mend(Checks checks, String text, int many, int which) {
        FlowFold x = Checks.read(text);
        checks.due(text + " mend(0)", x.mend(0), many);
        checks.due(text + " mend(1)", x.mend(1), which);
    }
}
