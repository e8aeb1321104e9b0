/** One test or more for each promise; what is due was worked out from the document's words, but where it says else. */
public final class PromiseTest {
    private static final int NONE = -1, UNKNOWN = -101, OUTSIDE = -102, STATE = -103, FULL = -104;
    private static final int LOW = Integer.MIN_VALUE, HIGH = Integer.MAX_VALUE;
    // A loop of 1 and 2, a way past it from 0 to 4, a way out of it over 3.
    private static final String LOOPED = "f14,f23,n1,n4,e";
    // Two ways into the circle of 1 and 2.
    private static final String BAD = "f12,n2,n1";
    private static final Checks checks = new Checks("PromiseTest");

    public static void main(String[] args) {
        newObject();
        letter();
        blank();
        fault();
        graph();
        graphRefused();
        graphTakesAllAway();
        nodeKept();
        nodeOrder();
        nodeLords();
        nodeHeadsAndMerges();
        nodeSortsAndAsk();
        as();
        dominates();
        edge();
        aim();
        be();
        walk();
        walkByTurns();
        visit();
        sign();
        foldTold();
        foldRefused();
        mend();
        mendOfMany();
        mendRefused();
        see();
        forget();
        drawn();
        image();
        restore();
        count();
        digest();
        checks.end();
    }

    private static void due(String call, long got, long want) {
        checks.due(call, got, want);
    }

    private static void dueSigns(String text, int... signs) {
        FlowFold x = Checks.read(text);
        due(text + " fold(0)", x.fold(0), signs.length);
        for (int i = 0; i < signs.length; i++) {
            due(text + " sign(" + i + ")", x.sign(i), signs[i]);
        }
        due(text + " sign behind", x.sign(signs.length), UNKNOWN);
    }

    private static void dueNodes(FlowFold x, int what, int... answers) {
        for (int node = 0; node < answers.length; node++) {
            due("node(" + node + ", " + what + ")", x.node(node, what), answers[node]);
        }
    }

    private static void dueVisits(FlowFold x, int... nodes) {
        for (int i = 0; i < nodes.length; i++) {
            due("visit(" + i + ")", x.visit(i), nodes[i]);
        }
    }

    // Promise 1
    private static void newObject() {
        FlowFold x = new FlowFold();
        for (int what = 0; what <= 11; what++) {
            due("new count(" + what + ")", x.count(what), 0);
        }
        due("new node", x.node(0, 0), UNKNOWN);
        due("new sign", x.sign(0), UNKNOWN);
        due("new visit", x.visit(0), UNKNOWN);
        due("new fold", x.fold(0), STATE);
        due("new image", x.image(), STATE);
        due("new restore", x.restore(), STATE);
        due("new forget", x.forget(), 0);
        due("new blank", x.blank(), 0);
        due("NONE", FlowFold.NONE, NONE);
        due("UNKNOWN", FlowFold.UNKNOWN, UNKNOWN);
        due("OUTSIDE", FlowFold.OUTSIDE, OUTSIDE);
        due("STATE", FlowFold.STATE, STATE);
        due("FULL", FlowFold.FULL, FULL);
    }

    // Promise 2
    private static void letter() {
        FlowFold x = new FlowFold();
        due("letter(31)", x.letter(31), OUTSIDE);
        due("letter(127)", x.letter(127), OUTSIDE);
        due("letter(LOW)", x.letter(LOW), OUTSIDE);
        due("letter(HIGH)", x.letter(HIGH), OUTSIDE);
        due("letter(32)", x.letter(32), 1);
        due("letter(126)", x.letter(126), 2);
        for (int many = 3; many <= 34; many++) {
            due("letter " + many, x.letter(101), many);
        }
        due("letter 35", x.letter(101), FULL);
        due("letter 35 outside", x.letter(127), OUTSIDE);
        due("count(9)", x.count(9), 34);
    }

    // Promise 3
    private static void blank() {
        FlowFold x = Checks.paged("f01,~~");
        due("blank()", x.blank(), 6);
        due("blank() again", x.blank(), 0);
        due("count(9)", x.count(9), 0);
        due("letter", x.letter(101), 1);
        FlowFold full = Checks.paged("e,e,e,e,e,e,e,e,e,e,e,e,e,e,e,e,e,");
        due("blank() of 34", full.blank(), 34);
    }

    // Promise 4
    private static void fault() {
        dueFault("", 0);
        dueFault("e", 1);
        dueFault("e,", 2);
        dueFault("e,,", 2);
        dueFault("e0", 1);
        dueFault("n", 1);
        dueFault("n7", 2);
        dueFault("n8", 1);
        dueFault("n9,e", 1);
        dueFault("n77", 2);
        dueFault("n/", 1);
        dueFault("f", 1);
        dueFault("f7", 2);
        dueFault("f7,", 2);
        dueFault("f77", 3);
        dueFault("f777", 3);
        dueFault("x01,t10,f00,n3", 14);
        dueFault("E", 0);
        dueFault(",e", 0);
        dueFault(" e", 0);
        dueFault("e ", 1);
        dueFault("e,a", 2);
        dueFault("e,e,e,e,e,e,e,e", 15);
        dueFault("e,e,e,e,e,e,e,e,", 15);
        dueFault("f01,f01,f01,f01,f01,f01,f01,f01", 31);
        dueFault("f01,f01,f01,f01,f01,f01,f01,f01,f0", 31);
        FlowFold x = Checks.paged("n7,q");
        x.fault();
        due("the page stays", x.blank(), 4);
    }

    private static void dueFault(String text, int place) {
        due("fault() of " + text, Checks.paged(text).fault(), place);
    }

    // Promise 5
    private static void graph() {
        FlowFold x = Checks.paged("e");
        due("graph() of e", x.graph(), 1);
        due("the page is empty", x.count(9), 0);
        due("graph() of nothing", x.graph(), STATE);
        due("it stays", x.count(0), 1);
        due("eight", Checks.paged("n7,e,e,e,e,e,e,e").graph(), 8);
        due("longest", Checks.paged("f01,f01,f01,f01,f01,f01,f01,f77").graph(), 8);
        Checks.write(x, LOOPED);
        due("graph() of five", x.graph(), 5);
        due("read twice", x.count(10), 2);
        due("kept as told", x.node(1, 2), 3);
    }

    private static void graphRefused() {
        String[] texts = {"", "e,", "n", "f0", "f0,", "n1", "f01", "f10", "e,n2", "x02,e", "n8", "q", "e e", "n00",
            "e,e,e,e,e,e,e,e,e"};
        for (String text : texts) {
            FlowFold x = Checks.read("n1,e");
            Checks.write(x, text);
            due("graph() of " + text, x.graph(), STATE);
            due("the page stays", x.count(9), text.length());
            due("the graph stays", x.count(0), 2);
            due("read once", x.count(10), 1);
            due("its end stays", x.node(0, 1), 1);
        }
        FlowFold none = Checks.paged("n1");
        due("graph() of none", none.graph(), STATE);
        due("still none", none.fold(0), STATE);
    }

    private static void graphTakesAllAway() {
        FlowFold x = Checks.read("f11,e");
        x.walk(1);
        x.see(0, 1, 1);
        x.image();
        x.mend(0);
        Checks.write(x, "e,n0,e");
        due("graph() anew", x.graph(), 3);
        due("no walk", x.count(7), 0);
        due("no visit", x.visit(0), UNKNOWN);
        due("nothing seen", x.count(8), 0);
        due("all sorts", x.node(0, 8), 31);
        due("no image", x.restore(), STATE);
        due("firsts anew", x.node(0, 1), 0);
        due("seconds anew", x.node(0, 2), 0);
        due("signs anew", x.fold(0), 1);
        due("mend() was told", x.count(11), 1);
        due("read twice", x.count(10), 2);
    }

    // Promise 6
    private static void nodeKept() {
        FlowFold x = Checks.read("n1,f32,e,x40,t23");
        dueNodes(x, 0, 0, 1, 2, 3, 4);
        dueNodes(x, 1, 1, 3, 0, 4, 2);
        dueNodes(x, 2, 0, 2, 0, 0, 3);
        due("node(5, 0)", x.node(5, 0), UNKNOWN);
        due("node(-1, 0)", x.node(-1, 0), UNKNOWN);
        due("node(LOW, 0)", x.node(LOW, 0), UNKNOWN);
        due("node(HIGH, 0)", x.node(HIGH, 0), UNKNOWN);
        due("node(0, 10)", x.node(0, 10), OUTSIDE);
        due("node(0, -1)", x.node(0, -1), OUTSIDE);
        due("node(0, LOW)", x.node(0, LOW), OUTSIDE);
        due("node(5, 10)", x.node(5, 10), UNKNOWN);
    }

    private static void nodeOrder() {
        // Done: 2, 3, 1, 4, 0 behind one another; 2 goes back to 1.
        dueNodes(Checks.read("f14,f23,n1,e,e"), 3, 0, 2, 4, 3, 1);
        dueNodes(Checks.read(LOOPED), 3, 0, 1, 4, 2, 3);
        dueNodes(Checks.read("e,n0,n1"), 3, 0, NONE, NONE);
        // The SECOND of a NODE that goes straight on is no EDGE.
        FlowFold x = Checks.read("n1,e,e");
        x.aim(0, 1, 2);
        dueNodes(x, 3, 0, 1, NONE);
        dueNodes(Checks.read("n3,e,n1,n2"), 3, 0, 3, 2, 1);
    }

    private static void nodeLords() {
        FlowFold x = Checks.read(LOOPED);
        dueNodes(x, 4, NONE, 0, 1, 1, 0);
        dueNodes(x, 7, 5, 3, 1, 1, 1);
        FlowFold chain = Checks.read("n1,n2,n3,n0,n2");
        dueNodes(chain, 4, NONE, 0, 1, 2, NONE);
        dueNodes(chain, 7, 4, 3, 2, 1, 0);
        FlowFold bad = Checks.read(BAD);
        dueNodes(bad, 4, NONE, 0, 0);
        dueNodes(bad, 7, 3, 1, 1);
        // 4 stands last, and only by its way to 2 is 1 on no more all ways to 2 and 3.
        FlowFold late = Checks.read("f14,n2,f43,e,n2");
        dueNodes(late, 3, 0, 1, 2, 3, 4);
        dueNodes(late, 4, NONE, 0, 0, 2, 0);
        dueNodes(late, 7, 5, 1, 2, 1, 1);
        // A way from an unreached node is none: 2 leads to 1 but is never come to.
        FlowFold lone = Checks.read("n1,e,n1");
        dueNodes(lone, 4, NONE, 0, NONE);
        dueNodes(lone, 6, 0, 0, 0);
    }

    private static void nodeHeadsAndMerges() {
        FlowFold x = Checks.read(LOOPED);
        dueNodes(x, 5, 0, 1, 0, 0, 0);
        dueNodes(x, 6, 0, 0, 0, 0, 1);
        FlowFold self = Checks.read("x00");
        dueNodes(self, 5, 1);
        dueNodes(self, 6, 0);
        FlowFold twice = Checks.read("f11,e");
        dueNodes(twice, 5, 0, 0);
        dueNodes(twice, 6, 0, 1);
        // The edge that is BAD makes no HEAD, and the one that retreats no MERGE.
        FlowFold bad = Checks.read(BAD);
        dueNodes(bad, 5, 0, 0, 0);
        // Done: 2 (its way back to 1 is begun), 1, 0: two edges lead on to 2.
        dueNodes(bad, 6, 0, 0, 1);
    }

    private static void nodeSortsAndAsk() {
        FlowFold x = Checks.read("e,e,e,e,e,e,e,e");
        due("all sorts", x.node(0, 8), 31);
        due("ask of all", x.node(0, 9), 2);
        x.see(0, 1, 0);
        due("went on", x.node(0, 8), 27);
        due("ask then", x.node(0, 9), 2);
        x.see(0, 2, 0);
        due("went on twice", x.node(0, 8), 19);
        due("ask the third", x.node(0, 9), 3);
        x.see(0, 3, 0);
        due("always straight on", x.node(0, 8), 3);
        due("ask of like ones", x.node(0, 9), 1);
        x.see(0, 3, 2);
        due("none", x.node(0, 8), 0);
        due("ask of none", x.node(0, 9), NONE);
        due("another node", x.node(1, 8), 31);
        x.see(1, 2, 1);
        due("by turns or by the input", x.node(1, 8), 10);
        due("ask", x.node(1, 9), 1);
        x.see(1, 1, 1);
        due("a fork", x.node(1, 8), 2);
        FlowFold y = Checks.read("n0,n0");
        y.see(1, 3, 1);
        due("third or fork", y.node(1, 8), 18);
        y.see(0, 3, 2);
        due("a stop", y.node(0, 8), 4);
        due("ask of one", y.node(0, 9), 1);
        FlowFold z = Checks.read("n0");
        z.see(0, 3, 0);
        due("not third, no stop", z.node(0, 8), 11);
        // At the second visit: to FIRST 0 and 1, to SECOND 1 and 3.
        due("ask the second", z.node(0, 9), 2);
    }

    // Promise 7
    private static void as() {
        FlowFold x = Checks.read("n0,f00,e,x00,t00");
        int[][] such = {{1, 0, 0, 0, 0}, {1, 1, 0, 0, 0}, {1, 0, 1, 0, 0}, {1, 0, 0, 1, 0}, {1, 0, 0, 1, 1}};
        for (int node = 0; node < 5; node++) {
            for (int kind = 0; kind < 5; kind++) {
                due("as(" + node + ", " + kind + ")", x.as(node, kind), such[node][kind] == 1 ? node : NONE);
            }
        }
        due("as(5, 0)", x.as(5, 0), UNKNOWN);
        due("as(-1, 5)", x.as(-1, 5), UNKNOWN);
        due("as(0, 5)", x.as(0, 5), OUTSIDE);
        due("as(0, -1)", x.as(0, -1), OUTSIDE);
        due("as of no graph", new FlowFold().as(0, 0), UNKNOWN);
    }

    // Promise 8
    private static void dominates() {
        FlowFold x = Checks.read("f14,f23,n1,n4,e,n0");
        int[][] rules = {{1, 1, 1, 1, 1, 0}, {0, 1, 1, 1, 0, 0}, {0, 0, 1, 0, 0, 0}, {0, 0, 0, 1, 0, 0},
            {0, 0, 0, 0, 1, 0}, {0, 0, 0, 0, 0, 0}};
        for (int one = 0; one < 6; one++) {
            for (int other = 0; other < 6; other++) {
                due("dominates(" + one + ", " + other + ")", x.dominates(one, other), rules[one][other]);
            }
        }
        due("dominates(6, 0)", x.dominates(6, 0), UNKNOWN);
        due("dominates(0, 6)", x.dominates(0, 6), UNKNOWN);
        due("dominates(-1, 0)", x.dominates(-1, 0), UNKNOWN);
        due("dominates(0, LOW)", x.dominates(0, LOW), UNKNOWN);
        due("dominates of no graph", new FlowFold().dominates(0, 0), UNKNOWN);
    }

    // Promise 9
    private static void edge() {
        FlowFold x = Checks.read("f14,f23,n1,n4,e,n0");
        int[][] edges = {{0, 0}, {0, 0}, {1, NONE}, {0, NONE}, {NONE, NONE}, {NONE, NONE}};
        for (int node = 0; node < 6; node++) {
            due("edge(" + node + ", 0)", x.edge(node, 0), edges[node][0]);
            due("edge(" + node + ", 1)", x.edge(node, 1), edges[node][1]);
        }
        due("edge(6, 0)", x.edge(6, 0), UNKNOWN);
        due("edge(-1, 2)", x.edge(-1, 2), UNKNOWN);
        due("edge(0, 2)", x.edge(0, 2), OUTSIDE);
        due("edge(0, -1)", x.edge(0, -1), OUTSIDE);
        FlowFold bad = Checks.read(BAD);
        due("leads on", bad.edge(1, 0), 0);
        due("bad", bad.edge(2, 0), 2);
        due("both back", Checks.read("t00").edge(0, 1), 1);
        due("edge of no graph", new FlowFold().edge(0, 0), UNKNOWN);
    }

    // Promise 10
    private static void aim() {
        FlowFold x = Checks.read("n1,e,e");
        due("aim(0, 0, 2)", x.aim(0, 0, 2), 1);
        due("now there", x.node(0, 1), 2);
        due("reached anew", x.node(2, 3), 1);
        due("no more", x.node(1, 3), NONE);
        due("aim(0, 1, 1)", x.aim(0, 1, 1), 0);
        due("kept", x.node(0, 2), 1);
        due("no edge", x.edge(0, 1), NONE);
        x.be(0, 1);
        due("an edge then", x.edge(0, 1), 0);
        due("aim(3, 0, 0)", x.aim(3, 0, 0), UNKNOWN);
        due("aim(0, 0, 3)", x.aim(0, 0, 3), UNKNOWN);
        due("aim(0, 2, -1)", x.aim(0, 2, -1), UNKNOWN);
        due("aim(0, 2, 0)", x.aim(0, 2, 0), OUTSIDE);
        due("aim(0, -1, 0)", x.aim(0, -1, 0), OUTSIDE);
        due("unchanged", x.node(0, 1), 2);
        due("aim of no graph", new FlowFold().aim(0, 0, 0), UNKNOWN);
    }

    // Promise 11
    private static void be() {
        FlowFold x = Checks.read("f12,e,e");
        due("be(0, 2)", x.be(0, 2), 1);
        due("a stop", x.count(1), 1);
        due("1 is not reached", x.dominates(1, 1), 0);
        due("nor over 1", x.dominates(0, 1), 0);
        due("no lord of 1", x.node(1, 4), NONE);
        due("nothing under 1", x.node(1, 7), 0);
        due("its ends are kept", x.node(0, 2), 2);
        due("be(0, 0)", x.be(0, 0), 2);
        due("one end", x.count(1), 2);
        due("be(0, 4)", x.be(0, 4), 0);
        due("two ends", x.count(1), 3);
        due("be(0, 4) again", x.be(0, 4), 4);
        due("be(3, 0)", x.be(3, 0), UNKNOWN);
        due("be(-1, 5)", x.be(-1, 5), UNKNOWN);
        due("be(0, 5)", x.be(0, 5), OUTSIDE);
        due("be(0, -1)", x.be(0, -1), OUTSIDE);
        due("unchanged", x.node(0, 0), 4);
        due("be of no graph", new FlowFold().be(0, 0), UNKNOWN);
    }

    // Promise 12
    private static void walk() {
        FlowFold x = Checks.read("f12,f02,e");
        due("walk(1)", x.walk(1), 2);
        dueVisits(x, 0, 2);
        due("walk(2)", x.walk(2), 3);
        dueVisits(x, 0, 1, 2);
        // Bits 0, 0, 1: first on, back, then out.
        due("walk(4)", x.walk(4), 4);
        dueVisits(x, 0, 1, 0, 2);
        due("walk(0)", x.walk(0), 30);
        dueVisits(x, 0, 1, 0, 1, 0, 1);
        due("the thirtieth", x.visit(29), 1);
        // Bit 30, the highest one, is that of the 31st fork: too late.
        due("walk(2^30)", x.walk(1 << 30), 30);
        due("walk(HIGH)", x.walk(HIGH), 2);
        due("bit 28", x.walk(1 << 28), 30);
        due("then the stop is the thirtieth", x.visit(29), 2);
        due("walk(-1)", x.walk(-1), OUTSIDE);
        due("walk(LOW)", x.walk(LOW), OUTSIDE);
        due("the latest stays", x.count(7), 30);
        due("no graph", new FlowFold().walk(0), STATE);
        due("no graph, outside", new FlowFold().walk(-1), OUTSIDE);
        due("a stop alone", Checks.read("e").walk(0), 1);
        // A fork takes a bit of the input only when it is visited.
        FlowFold y = Checks.read("n1,f02,e");
        due("walk(2) of another", y.walk(2), 5);
        dueVisits(y, 0, 1, 0, 1, 2);
    }

    private static void walkByTurns() {
        FlowFold x = Checks.read("x12,n0,e");
        due("a flip", x.walk(1), 4);
        dueVisits(x, 0, 1, 0, 2);
        due("begins anew", x.walk(1), 4);
        FlowFold odd = Checks.read("x12,e,e");
        due("one visit", odd.walk(0), 2);
        due("one visit anew", odd.walk(0), 2);
        dueVisits(odd, 0, 1);
        FlowFold y = Checks.read("t12,n0,e");
        due("a third", y.walk(1), 6);
        dueVisits(y, 0, 1, 0, 1, 0, 2);
        // 0 counts its own visits: at the third and the sixth one to 2.
        FlowFold z = Checks.read("t12,n0,x03,e");
        due("both", z.walk(0), 13);
        dueVisits(z, 0, 1, 0, 1, 0, 2, 0, 1, 0, 1, 0, 2, 3);
    }

    // Promise 13
    private static void visit() {
        FlowFold x = Checks.read("n1,e");
        due("none yet", x.visit(0), UNKNOWN);
        x.walk(0);
        due("visit(1)", x.visit(1), 1);
        due("visit(2)", x.visit(2), UNKNOWN);
        due("visit(-1)", x.visit(-1), UNKNOWN);
        due("visit(LOW)", x.visit(LOW), UNKNOWN);
        due("visit(HIGH)", x.visit(HIGH), UNKNOWN);
        x.aim(0, 0, 0);
        due("it stays", x.visit(1), 1);
        x.walk(0);
        due("visit(29)", x.visit(29), 0);
        due("visit(30)", x.visit(30), UNKNOWN);
    }

    // Promise 14
    private static void sign() {
        dueSigns("e", 0);
        dueSigns("n1,e", 0, 1);
        dueSigns("n0", 100, 0, 500, 300);
        dueSigns("f12,e,e", 0, 1, 400, 2, 401);
        dueSigns("x11,e", 201, 0, 600, 400, 600, 401, 301, 1);
        dueSigns(LOOPED, 204, 0, 101, 1, 2, 500, 400, 3, 601, 401, 300, 400, 600, 401, 301, 4);
        // A loop within a loop: 2 goes to 1 or to 0.
        dueSigns("n1,n2,f10", 100, 0, 101, 1, 2, 500, 400, 501, 401, 300, 300);
        // Two merges of 0: 3 stands ahead of 4 in the order, so its block is the inner one.
        dueSigns("f12,f34,f34,n4,e",
            204, 203, 0, 1, 600, 400, 601, 401, 400, 2, 600, 400, 601, 401, 401, 301, 3, 600, 301, 4);
        // The merge 3 is the head of a loop: its block is closed, then its loop opened.
        dueSigns("f12,n3,n3,x34,e", 203, 0, 1, 600, 400, 2, 600, 401, 301, 103, 3, 500, 400, 4, 401, 300);
        // Three blocks in a loop; the ways out lead past one and two of them.
        dueSigns("f12,f34,f45,n6,f67,n6,f70,e",
            100, 207, 206, 204, 0, 1, 3, 601, 400, 600, 401, 400, 2, 600, 400, 5, 601, 401, 401,
            301, 4, 600, 400, 601, 401, 301, 6, 600, 400, 501, 401, 301, 7, 300);
        // The longest chain, each the only vassal of the one ahead of it, and each a head.
        dueSigns("n1,n2,n3,n4,n5,n6,n7,e", 0, 1, 2, 3, 4, 5, 6, 7);
        dueSigns("f10,f21,f32,f43,f54,f65,f76,n7",
            100, 0, 101, 1, 102, 2, 103, 3, 104, 4, 105, 5, 106, 6, 107, 7, 500, 300,
            400, 500, 401, 300, 400, 500, 401, 300, 400, 500, 401, 300, 400, 500, 401, 300,
            400, 500, 401, 300, 400, 500, 401, 300, 400, 500, 401, 300);
        // Each the merge of the one ahead of it.
        dueSigns("f11,f22,f33,f44,f55,f66,f77,e",
            201, 0, 600, 400, 600, 401, 301, 202, 1, 600, 400, 600, 401, 301, 203, 2, 600, 400, 600, 401, 301,
            204, 3, 600, 400, 600, 401, 301, 205, 4, 600, 400, 600, 401, 301, 206, 5, 600, 400, 600, 401, 301,
            207, 6, 600, 400, 600, 401, 301, 7);
        FlowFold x = Checks.read("n0");
        due("sign(-1)", x.sign(-1), UNKNOWN);
        due("sign(LOW)", x.sign(LOW), UNKNOWN);
        due("sign(HIGH)", x.sign(HIGH), UNKNOWN);
        due("sign of a bad one", Checks.read(BAD).sign(0), UNKNOWN);
        due("sign of no graph", new FlowFold().sign(0), UNKNOWN);
        x.be(0, 2);
        due("changed", x.sign(0), 0);
        due("shorter", x.sign(1), UNKNOWN);
    }

    // Promise 15
    private static void foldTold() {
        dueFold("e", 1, 0, 0, 0);
        dueFold("n0", 4, 1, 0, 1);
        dueFold(LOOPED, 16, 3, 1, 2);
        dueFold("n1,n2,f10", 11, 2, 1, 2);
        dueFold("f12,f34,f34,n4,e", 20, 5, 2, 2);
        dueFold(BAD, NONE, NONE, NONE, NONE);
        // Two loops beside one another are not open at once.
        dueFold("f12,n1,n2", 11, 2, 0, 1);
        // What cannot be reached is no part of it.
        dueFold("e,n2,n1", 1, 0, 0, 0);
        FlowFold x = Checks.read("n1,n2,f10");
        x.aim(2, 1, 1);
        due("as many signs", x.fold(0), 9);
        due("as many ways", x.fold(1), 2);
        due("no depths", x.fold(2), 0);
        due("one loop", x.fold(3), 1);
        x.be(2, 2);
        due("three signs", x.fold(0), 3);
        due("no ways", x.fold(1), 0);
        due("no loop", x.fold(3), 0);
    }

    private static void dueFold(String text, int... answers) {
        FlowFold x = Checks.read(text);
        for (int what = 0; what < 4; what++) {
            due(text + " fold(" + what + ")", x.fold(what), answers[what]);
        }
    }

    private static void foldRefused() {
        FlowFold x = Checks.read(BAD);
        due("fold(4)", x.fold(4), OUTSIDE);
        due("fold(-1)", x.fold(-1), OUTSIDE);
        due("fold(LOW)", x.fold(LOW), OUTSIDE);
        due("fold(0) of no graph", new FlowFold().fold(0), STATE);
        due("fold(4) of no graph", new FlowFold().fold(4), OUTSIDE);
    }

    // Promise 16
    private static void mend() {
        dueMend("e", 0, 0);
        dueMend(LOOPED, 0, 0);
        // Without the FIRST of 0 the circle has one way in.
        dueMend(BAD, 1, 1);
        // The FIRST of 0 is the only way to the circle of 2 and 3.
        dueMend("n1,f23,n3,n2", 1, 1);
        FlowFold x = Checks.read(BAD);
        x.mend(0);
        due("nothing is left out", x.count(2), 4);
        due("still bad", x.fold(0), NONE);
    }

    private static void dueMend(String text, int many, int which) {
        FlowFold x = Checks.read(text);
        due(text + " mend(0)", x.mend(0), many);
        due(text + " mend(1)", x.mend(1), which);
        due(text + " told", x.count(11), 2);
    }

    private static void mendOfMany() {
        // Two circles, 3 with 4 and 5 with 6, each with two ways in: no one edge mends both, unless it is
        // the only way to both of them.
        dueMend("f12,f34,f56,n4,n3,n6,n5", 2, 3);
        dueMend("n7,f34,f56,n4,n3,n6,n5,f12", 1, 1);
        // Node 0 goes back to itself, and by its SECOND into a circle that 1 leads into too.
        dueMend("f01,f23,n3,n2", 1, 2);
        // Without either end of 0 the circle of 1 and 2 is left with two ways in, over 3 and over 4: the
        // FIRST of 1, bit 2, is the least edge without which it is none.
        dueMend("f34,n2,n1,f12,f21", 1, 4);
        // The same with a stop as 1: bit 4, the FIRST of 2.
        dueMend("f45,e,n3,n2,f23,f32", 1, 16);
        FlowFold aimed = Checks.read("n1,f23,n3,n2");
        aimed.aim(2, 0, 0);
        due("mended by an aim", aimed.mend(0), 0);
    }

    private static void mendRefused() {
        FlowFold x = Checks.read(BAD);
        due("mend(2)", x.mend(2), OUTSIDE);
        due("mend(-1)", x.mend(-1), OUTSIDE);
        due("refusals are none", x.count(11), 0);
        for (int time = 1; time <= 5; time++) {
            due("mend(0)", x.mend(0), 1);
            due("told", x.count(11), time);
        }
        due("a sixth", x.mend(0), STATE);
        due("a sixth, outside", x.mend(2), OUTSIDE);
        due("told five times", x.count(11), 5);
        Checks.write(x, "e");
        due("read anew", x.graph(), 1);
        due("still told five times", x.mend(0), STATE);
        FlowFold none = new FlowFold();
        due("no graph", none.mend(0), STATE);
        due("no graph, outside", none.mend(2), OUTSIDE);
        due("not told", none.count(11), 0);
    }

    // Promise 17
    private static void see() {
        FlowFold x = Checks.read("n1,e");
        due("see(2, 0, 3)", x.see(2, 0, 3), UNKNOWN);
        due("see(-1, 1, 0)", x.see(-1, 1, 0), UNKNOWN);
        due("see(0, 0, 0)", x.see(0, 0, 0), OUTSIDE);
        due("see(0, 4, 0)", x.see(0, 4, 0), OUTSIDE);
        due("see(0, 1, -1)", x.see(0, 1, -1), OUTSIDE);
        due("see(0, 1, 3)", x.see(0, 1, 3), OUTSIDE);
        due("nothing seen", x.count(8), 0);
        for (int many = 1; many <= 6; many++) {
            due("see " + many, x.see(many % 2, 3, 0), many);
        }
        due("see 7", x.see(0, 1, 0), FULL);
        due("see 7, outside", x.see(0, 4, 0), OUTSIDE);
        due("see 7, unknown", x.see(2, 1, 0), UNKNOWN);
        due("seen six", x.count(8), 6);
        due("see of no graph", new FlowFold().see(0, 1, 0), UNKNOWN);
    }

    // Promise 18
    private static void forget() {
        FlowFold x = Checks.read("n0");
        x.see(0, 1, 2);
        x.see(0, 1, 1);
        due("forget()", x.forget(), 2);
        due("forget() again", x.forget(), 0);
        due("all sorts", x.node(0, 8), 31);
        due("seen anew", x.see(0, 1, 2), 1);
        due("a stop", x.node(0, 8), 4);
    }

    // Promise 19
    private static void drawn() {
        FlowFold x = new FlowFold();
        long seed = 12;
        for (int times = 1; times <= 8; times++) {
            for (int draw = 0; draw < 15; draw++) {
                seed = (1103515245L * seed + 12345L) % 2147483648L;
            }
            due("the seed of " + times, x.drawn(times, 12, 2), seed);
        }
        // These four are taken from the shared test, or follow from it.
        due("one that folds", x.drawn(1, 77, 0), 1);
        due("eight that fold", x.drawn(8, 77, 0), 8);
        due("their heads", x.drawn(8, 77, 1), 12);
        due("not all fold", x.drawn(5, 9, 0), 4);
        due("seed 0", x.drawn(1, 0, 0) >= 0 ? 1 : 0, 1);
        due("drawn(0, 1, 0)", x.drawn(0, 1, 0), OUTSIDE);
        due("drawn(9, 1, 0)", x.drawn(9, 1, 0), OUTSIDE);
        due("drawn(1, -1, 0)", x.drawn(1, -1, 0), OUTSIDE);
        due("drawn(1, 1, 3)", x.drawn(1, 1, 3), OUTSIDE);
        due("drawn(1, 1, -1)", x.drawn(1, 1, -1), OUTSIDE);
        due("drawn(LOW, LOW, LOW)", x.drawn(LOW, LOW, LOW), OUTSIDE);
        due("no graph of it", x.count(0), 0);
        FlowFold y = Checks.read(LOOPED);
        Checks.write(y, "n0");
        long before = y.digest();
        y.drawn(8, 5, 0);
        due("as they would be", y.digest(), before);
    }

    // Promise 20
    private static void image() {
        FlowFold x = new FlowFold();
        due("no graph", x.image(), STATE);
        Checks.write(x, "n1,e");
        x.graph();
        due("image()", x.image(), 2);
        x.be(1, 3);
        due("the latest", x.image(), 2);
        x.be(1, 0);
        x.restore();
        due("of the latest", x.node(1, 0), 3);
    }

    // Promise 21
    private static void restore() {
        FlowFold x = Checks.read("f12,n0,e");
        due("none was kept", x.restore(), STATE);
        x.see(0, 1, 1);
        x.image();
        x.aim(0, 0, 2);
        x.aim(0, 1, 0);
        x.be(1, 4);
        x.see(1, 1, 1);
        x.walk(1);
        due("restore()", x.restore(), 3);
        dueNodes(x, 0, 1, 0, 2);
        dueNodes(x, 1, 1, 0, 0);
        dueNodes(x, 2, 2, 0, 0);
        due("seen then", x.count(8), 1);
        due("sorts then", x.node(0, 8), 2);
        due("sorts of another", x.node(1, 8), 31);
        due("looked at anew", x.count(1), 3);
        due("folded anew", x.sign(0), 100);
        due("the walk stays", x.count(7), 3);
        x.forget();
        x.be(0, 2);
        due("restore() again", x.restore(), 3);
        due("seen again", x.count(8), 1);
        due("kind again", x.node(0, 0), 1);
        x.forget();
        x.see(2, 3, 2);
        x.restore();
        due("all of what was seen", x.node(0, 8), 2);
        due("and of no other node", x.node(2, 8), 31);
        Checks.write(x, "q");
        x.graph();
        due("a refused graph is none", x.restore(), 3);
        x.blank();
        Checks.write(x, "f12,n0,e");
        x.graph();
        due("another graph since", x.restore(), STATE);
        due("image() of it", x.image(), 3);
        due("restore() of it", x.restore(), 3);
    }

    // Promise 22
    private static void count() {
        FlowFold x = Checks.read("f14,f23,n1,n4,e,n0");
        x.walk(1);
        x.see(0, 1, 1);
        x.mend(1);
        Checks.write(x, "abc");
        int[] answers = {6, 5, 6, 1, 0, 1, 1, 2, 1, 3, 1, 1};
        for (int what = 0; what <= 11; what++) {
            due("count(" + what + ")", x.count(what), answers[what]);
        }
        due("count(12)", x.count(12), OUTSIDE);
        due("count(-1)", x.count(-1), OUTSIDE);
        due("count(LOW)", x.count(LOW), OUTSIDE);
        FlowFold bad = Checks.read(BAD);
        due("one bad", bad.count(4), 1);
        due("no back", bad.count(3), 0);
        FlowFold self = Checks.read("f00");
        due("two back", self.count(3), 2);
        due("one head", self.count(5), 1);
        x.be(0, 2);
        int[] then = {6, 1, 0, 0, 0, 0, 0, 2, 1, 3, 1, 1};
        for (int what = 0; what <= 11; what++) {
            due("count(" + what + ") then", x.count(what), then[what]);
        }
    }

    // Promise 23
    private static void digest() {
        long none = 1381;
        for (int what = 0; what <= 11; what++) {
            none *= 31;
        }
        due("digest() of a new object", new FlowFold().digest(), none);
        FlowFold x = Checks.read("n0");
        x.walk(0);
        Checks.write(x, "A~");
        long h = 1381;
        int[] told = {0, 0, 0, 0, -1, 1, 0, 1, 31, 2, 1, -1, 4, 1, 0, 1, 100, 0, 500, 300};
        for (int number : told) {
            h = 31 * h + number;
        }
        for (int visit = 0; visit < 30; visit++) {
            h = 31 * h;
        }
        int[] rest = {65, 126, 1, 1, 1, 1, 0, 1, 0, 30, 0, 2, 1, 0};
        for (int number : rest) {
            h = 31 * h + number;
        }
        due("digest()", x.digest(), h);
        due("digest() again", x.digest(), h);
    }
}
