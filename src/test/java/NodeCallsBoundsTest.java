/** Each sentence of the promises 1 to 11 that names a bound: the calls of the GRAPH, of NODES and of what is done. */
public final class NodeCallsBoundsTest {
    // 1 and 2 are a loop; 5 is not REACHED, though it leads to 0.
    private static final String LOOPED = "f14,f23,n1,n4,e,n0";
    private static final String LONGEST = "f01,x12,t23,f34,x45,t56,f67,x70";

    public static void main(String[] args) throws Exception {
        Sentences.run(NodeCallsBoundsTest.class);
    }

    @Says(promise = 1, words = "No GRAPH.")
    static void newObject(Checks checks) {
        FlowFold x = new FlowFold();
        for (int what = 0; what <= 11; what++) {
            checks.due("count(" + what + ")", x.count(what), 0);
        }
        for (int what = 0; what <= 9; what++) {
            checks.due("node(0, " + what + ")", x.node(0, what), Checks.UNKNOWN);
        }
        checks.due("as(0, 0)", x.as(0, 0), Checks.UNKNOWN);
        checks.due("dominates(0, 0)", x.dominates(0, 0), Checks.UNKNOWN);
        checks.due("edge(0, 0)", x.edge(0, 0), Checks.UNKNOWN);
        checks.due("aim(0, 0, 0)", x.aim(0, 0, 0), Checks.UNKNOWN);
        checks.due("be(0, 0)", x.be(0, 0), Checks.UNKNOWN);
        checks.due("see(0, 1, 0)", x.see(0, 1, 0), Checks.UNKNOWN);
        checks.due("visit(0)", x.visit(0), Checks.UNKNOWN);
        checks.due("sign(0)", x.sign(0), Checks.UNKNOWN);
        checks.due("graph()", x.graph(), Checks.STATE);
        checks.due("walk(0)", x.walk(0), Checks.STATE);
        checks.due("fold(0)", x.fold(0), Checks.STATE);
        checks.due("mend(0)", x.mend(0), Checks.STATE);
        checks.due("image()", x.image(), Checks.STATE);
        checks.due("restore()", x.restore(), Checks.STATE);
        checks.due("blank()", x.blank(), 0);
        checks.due("fault()", x.fault(), 0);
        checks.due("forget()", x.forget(), 0);
    }

    @Says(promise = 2, words = "A letter comes behind THE PAGE, told by its code: how many THE PAGE has.")
    static void lettersBehindOneAnother(Checks checks) {
        FlowFold x = new FlowFold();
        for (int many = 1; many <= 31; many++) {
            checks.due("letter " + many, x.letter(LONGEST.charAt(many - 1)), many);
        }
        checks.due("they stand in order", x.graph(), 8);
        checks.due("the last one", x.node(7, 1), 7);
        checks.due("letter 1 again", x.letter('e'), 1);
    }

    @Says(promise = 2, words = "OUTSIDE: code (32 to 126)")
    static void codes(Checks checks) {
        for (int code = 32; code <= 126; code++) {
            checks.due("letter(" + code + ")", new FlowFold().letter(code), 1);
        }
        FlowFold x = Checks.read("n0");
        checks.refusedBeyond(32, 126, x, "letter", x::letter, Checks.OUTSIDE);
        for (int code : new int[] {0, 9, 10, 13, 31, 127, 128, 255, 256 + 'e', 65536 + 'e'}) {
            checks.refused(x, "letter(" + code + ")", () -> x.letter(code), Checks.OUTSIDE);
        }
    }

    @Says(promise = 2, words = "FULL: above 34.")
    static void above34(Checks checks) {
        FlowFold x = new FlowFold();
        for (int many = 1; many <= 34; many++) {
            checks.due("letter " + many, x.letter('~'), many);
        }
        checks.refused(x, "letter 35", () -> x.letter('e'), Checks.FULL);
        checks.refused(x, "letter 35 again", () -> x.letter(32), Checks.FULL);
        checks.due("how many there are", x.blank(), 34);
        checks.due("there is room again", x.letter('e'), 1);
    }

    @Says(promise = 3, words = "THE PAGE is empty: how many letters it had.")
    static void blank(Checks checks) {
        FlowFold x = Checks.read("n0");
        for (int many = 0; many <= 34; many++) {
            Checks.write(x, "e".repeat(many % 8));
            checks.due("blank() of " + many % 8, x.blank(), many % 8);
            checks.due("count(9)", x.count(9), 0);
        }
        Checks.write(x, "~".repeat(34));
        checks.due("blank() of a full one", x.blank(), 34);
        checks.due("blank() of an empty one", x.blank(), 0);
        checks.due("nothing is to be read", x.graph(), Checks.STATE);
        checks.due("the GRAPH stays", x.count(0), 1);
        checks.due("all 34 find room", Checks.paged("~".repeat(34)).count(9), 34);
    }

    private static void fault(Checks checks, String text, int place) {
        FlowFold x = Checks.paged(text);
        long before = x.digest();
        checks.due("fault() of " + text, x.fault(), place);
        checks.due("nothing changes by fault() of " + text, x.digest(), before);
    }

    @Says(promise = 4, words = "The place (from 0) of the first letter of THE PAGE that no GRAPH has there, behind those"
        + " ahead of it")
    static void faultAtTheFirst(Checks checks) {
        for (int code = 32; code <= 126; code++) {
            char letter = (char) code;
            boolean digit = code >= '0' && code <= '7';
            fault(checks, "" + letter, "nfext".indexOf(code) >= 0 ? 1 : 0);
            fault(checks, "n" + letter, digit ? 2 : 1);
            fault(checks, "f" + letter, digit ? 2 : 1);
            fault(checks, "t0" + letter, digit ? 3 : 2);
            fault(checks, "e" + letter, code == ',' ? 2 : 1);
            fault(checks, "x00" + letter, code == ',' ? 4 : 3);
            fault(checks, "e," + letter, "nfext".indexOf(code) >= 0 ? 3 : 2);
        }
        fault(checks, "q~q", 0);
        fault(checks, "e,e,8,8", 4);
        // Behind eight NODES no GRAPH has any letter.
        fault(checks, "e,e,e,e,e,e,e,e,", 15);
        fault(checks, LONGEST + ",", 31);
        fault(checks, LONGEST + "0", 31);
        fault(checks, LONGEST + ",e,", 31);
        fault(checks, "f01,f01,f01,f01,f01,f01,f01,f0", 30);
    }

    @Says(promise = 4, words = "(whether there are so many NODES does not matter)")
    static void faultWhateverTheDigits(Checks checks) {
        fault(checks, "n7", 2);
        fault(checks, "f77", 3);
        fault(checks, "e,x67,n5", 8);
        fault(checks, "n8", 1);
        fault(checks, "n9", 1);
        checks.due("though graph() minds", Checks.paged("n7").graph(), Checks.STATE);
    }

    @Says(promise = 4, words = "how many letters it has, if there is none")
    static void faultOfNone(Checks checks) {
        fault(checks, "", 0);
        for (int letters = 1; letters <= LONGEST.length(); letters++) {
            fault(checks, LONGEST.substring(0, letters), letters);
        }
    }

    @Says(promise = 5, words = "THE PAGE is read as THE GRAPH (another one is gone, with all that was): how many NODES")
    static void anotherGraphIsGone(Checks checks) {
        FlowFold x = Checks.read(LONGEST);
        x.walk(5);
        x.image();
        for (int node = 0; node < 6; node++) {
            x.see(node, 1, 2);
        }
        Checks.write(x, "n1,e");
        checks.due("graph()", x.graph(), 2);
        checks.due("two NODES", x.count(0), 2);
        checks.due("the others are gone", x.node(2, 0), Checks.UNKNOWN);
        checks.due("no WALK", x.count(7), 0);
        checks.due("no visit", x.visit(0), Checks.UNKNOWN);
        checks.due("nothing is SEEN", x.count(8), 0);
        checks.due("all SORTS", x.node(0, 8), 31);
        checks.due("there is room for what is SEEN", x.see(0, 1, 0), 1);
        checks.due("no IMAGE", x.restore(), Checks.STATE);
        checks.due("two SIGNS", x.fold(0), 2);
        checks.due("no more of them", x.sign(2), Checks.UNKNOWN);
    }

    @Says(promise = 5, words = "THE PAGE is empty then.")
    static void pageIsEmptyThen(Checks checks) {
        FlowFold x = Checks.read(LONGEST);
        checks.due("count(9)", x.count(9), 0);
        checks.due("blank()", x.blank(), 0);
        checks.due("fault()", x.fault(), 0);
        checks.refused(x, "graph() again", x::graph, Checks.STATE);
        checks.due("letter", x.letter('e'), 1);
    }

    @Says(promise = 5, words = "STATE: it is none (also: a digit is that of no NODE).")
    static void graphIsNone(Checks checks) {
        String[] texts = {"", "n", "f", "f0", "e,", "n0,", "e,n", "e,f1", "q", "e0", "n00", "n8", "e e", "N0", ",",
            "e,e,e,e,e,e,e,e,", "e,e,e,e,e,e,e,e,e", LONGEST + "0", "~".repeat(34),
            "n1", "f01", "f10", "e,n2", "x20,e", "t02,e", "e,e,e,e,e,e,n7"};
        for (String text : texts) {
            FlowFold none = Checks.paged(text);
            checks.refused(none, "graph() of " + text, none::graph, Checks.STATE);
            FlowFold x = Checks.read("f11,n0");
            x.walk(0);
            x.see(1, 1, 1);
            x.image();
            Checks.write(x, text);
            checks.refused(x, "graph() behind another one of " + text, x::graph, Checks.STATE);
            checks.due("the IMAGE stays", x.restore(), 2);
            checks.due("THE PAGE stays", x.blank(), text.length());
        }
    }

    @Says(promise = 6, words = "1 FIRST, 2 SECOND (as kept)")
    static void endsAsKept(Checks checks) {
        FlowFold x = Checks.read("f77,e,e,e,e,e,e,n6");
        checks.due("FIRST of 0", x.node(0, 1), 7);
        checks.due("SECOND of 0", x.node(0, 2), 7);
        checks.due("FIRST of a STOP", x.node(1, 1), 0);
        checks.due("SECOND of a STOP", x.node(1, 2), 0);
        checks.due("SECOND of one that was not told", x.node(7, 2), 0);
        x.be(0, 2);
        checks.due("FIRST of 0, now a STOP", x.node(0, 1), 7);
        checks.due("SECOND of 0, now a STOP", x.node(0, 2), 7);
    }

    @Says(promise = 6, words = "3 its place in the ORDER (NONE: it is not REACHED)")
    static void places(Checks checks) {
        dueNodes(checks, 3, 0, 1, 4, 2, 3, Checks.NONE);
    }

    @Says(promise = 6, words = "4 its LORD (NONE)")
    static void lords(Checks checks) {
        dueNodes(checks, 4, Checks.NONE, 0, 1, 1, 0, Checks.NONE);
    }

    @Says(promise = 6, words = "5 whether it is a HEAD (1, 0), 6 whether it is a MERGE (1, 0)")
    static void headsAndMerges(Checks checks) {
        dueNodes(checks, 5, 0, 1, 0, 0, 0, 0);
        dueNodes(checks, 6, 0, 0, 0, 0, 1, 0);
    }

    @Says(promise = 6, words = "7 how many it DOMINATES (itself, too; 0: not REACHED)")
    static void howManyDominated(Checks checks) {
        dueNodes(checks, 7, 5, 3, 1, 1, 1, 0);
        FlowFold all = Checks.read("n1,n2,n3,n4,n5,n6,n7,e");
        for (int node = 0; node < 8; node++) {
            checks.due("one behind the other, node(" + node + ", 7)", all.node(node, 7), 8 - node);
        }
    }

    @Says(promise = 6, words = "8 SORTS, as bits, 9 ASK (NONE)")
    static void sortsAndAsk(Checks checks) {
        dueNodes(checks, 8, 31, 31, 31, 31, 31, 31);
        dueNodes(checks, 9, 2, 2, 2, 2, 2, 2);
        FlowFold x = Checks.read(LOOPED);
        x.see(5, 1, 2);
        checks.due("also of one that is not REACHED", x.node(5, 8), 4);
        x.see(5, 1, 1);
        checks.due("none", x.node(5, 8), 0);
        checks.due("nothing to ask", x.node(5, 9), Checks.NONE);
    }

    private static void dueNodes(Checks checks, int what, int... answers) {
        FlowFold x = Checks.read(LOOPED);
        for (int node = 0; node < answers.length; node++) {
            checks.due("node(" + node + ", " + what + ")", x.node(node, what), answers[node]);
        }
    }

    @Says(promise = 6, words = "UNKNOWN; OUTSIDE.")
    static void nodeRefused(Checks checks) {
        FlowFold x = Checks.read(LOOPED);
        checks.refusedBeyond(0, 5, x, "node(.., 0)", node -> x.node(node, 0), Checks.UNKNOWN);
        checks.refusedBeyond(0, 5, x, "node(.., 9)", node -> x.node(node, 9), Checks.UNKNOWN);
        checks.refusedBeyond(0, 5, x, "node(.., 10)", node -> x.node(node, 10), Checks.UNKNOWN);
        checks.refusedBeyond(0, 9, x, "node(0, ..)", what -> x.node(0, what), Checks.OUTSIDE);
        checks.refusedBeyond(0, 9, x, "node(5, ..)", what -> x.node(5, what), Checks.OUTSIDE);
    }

    @Says(promise = 7, words = "A NODE taken as a KIND: its number; NONE: it is none such (the cast fails).")
    static void as(Checks checks) {
        FlowFold x = Checks.read("n0,f00,e,x00,t00");
        String[] kinds = {"0", "01", "02", "03", "034"};
        for (int node = 0; node <= 4; node++) {
            for (int kind = 0; kind <= 4; kind++) {
                boolean such = kinds[node].indexOf('0' + kind) >= 0;
                checks.due("as(" + node + ", " + kind + ")", x.as(node, kind), such ? node : Checks.NONE);
            }
        }
        x.be(4, 1);
        checks.due("no FLIP any more", x.as(4, 3), Checks.NONE);
        checks.due("a FORK now", x.as(4, 1), 4);
    }

    @Says(promise = 7, words = "UNKNOWN; OUTSIDE.")
    static void asRefused(Checks checks) {
        FlowFold x = Checks.read(LOOPED);
        checks.refusedBeyond(0, 5, x, "as(.., 0)", node -> x.as(node, 0), Checks.UNKNOWN);
        checks.refusedBeyond(0, 5, x, "as(.., 5)", node -> x.as(node, 5), Checks.UNKNOWN);
        checks.refusedBeyond(0, 4, x, "as(5, ..)", kind -> x.as(5, kind), Checks.OUTSIDE);
    }

    @Says(promise = 8, words = "(1, 0; 0 if either is not REACHED)")
    static void dominatesNotReached(Checks checks) {
        FlowFold x = Checks.read(LOOPED);
        for (int node = 0; node <= 5; node++) {
            checks.due("dominates(5, " + node + ")", x.dominates(5, node), 0);
            checks.due("dominates(" + node + ", 5)", x.dominates(node, 5), 0);
            checks.due("dominates(0, " + node + ")", x.dominates(0, node), node < 5 ? 1 : 0);
        }
        checks.due("not the other way round", x.dominates(2, 1), 0);
    }

    @Says(promise = 8, words = "UNKNOWN: one, other.")
    static void dominatesRefused(Checks checks) {
        FlowFold x = Checks.read(LOOPED);
        checks.refusedBeyond(0, 5, x, "dominates(.., 0)", one -> x.dominates(one, 0), Checks.UNKNOWN);
        checks.refusedBeyond(0, 5, x, "dominates(0, ..)", other -> x.dominates(0, other), Checks.UNKNOWN);
        checks.refusedBeyond(0, 5, x, "dominates(.., ..)", both -> x.dominates(both, both), Checks.UNKNOWN);
        checks.refusedBeyond(0, 5, x, "dominates(5, ..)", other -> x.dominates(5, other), Checks.UNKNOWN);
    }

    @Says(promise = 9, words = "0 it leads on, 1 it RETREATS and is BACK, 2 it is BAD; NONE: it is no EDGE of a REACHED NODE.")
    static void edgesTold(Checks checks) {
        FlowFold x = Checks.read(LOOPED);
        int[] firsts = {0, 0, 1, 0, Checks.NONE, Checks.NONE};
        int[] seconds = {0, 0, Checks.NONE, Checks.NONE, Checks.NONE, Checks.NONE};
        for (int node = 0; node <= 5; node++) {
            checks.due("edge(" + node + ", 0)", x.edge(node, 0), firsts[node]);
            checks.due("edge(" + node + ", 1)", x.edge(node, 1), seconds[node]);
        }
        FlowFold bad = Checks.read("f12,n2,n1");
        checks.due("BAD", bad.edge(2, 0), 2);
        bad.be(0, 2);
        checks.due("not REACHED any more", bad.edge(2, 0), Checks.NONE);
        checks.due("nor that of a STOP", bad.edge(0, 0), Checks.NONE);
    }

    @Says(promise = 9, words = "UNKNOWN: node; OUTSIDE: which (0, 1).")
    static void edgeRefused(Checks checks) {
        FlowFold x = Checks.read(LOOPED);
        checks.refusedBeyond(0, 5, x, "edge(.., 0)", node -> x.edge(node, 0), Checks.UNKNOWN);
        checks.refusedBeyond(0, 5, x, "edge(.., 2)", node -> x.edge(node, 2), Checks.UNKNOWN);
        checks.refusedBeyond(0, 1, x, "edge(0, ..)", which -> x.edge(0, which), Checks.OUTSIDE);
        checks.refusedBeyond(0, 1, x, "edge(5, ..)", which -> x.edge(5, which), Checks.OUTSIDE);
    }

    @Says(promise = 10, words = "The FIRST (0) or the SECOND (1) of a NODE is another one: which it was.")
    static void aims(Checks checks) {
        FlowFold x = Checks.read("n7,e,e,e,e,e,e,e");
        checks.due("to itself", x.aim(0, 0, 0), 7);
        checks.due("to the last one", x.aim(0, 0, 7), 0);
        checks.due("to the same one", x.aim(0, 0, 7), 7);
        checks.due("its SECOND, though it is no EDGE", x.aim(0, 1, 6), 0);
        checks.due("its FIRST stays", x.node(0, 1), 7);
        checks.due("its SECOND is kept", x.node(0, 2), 6);
        checks.due("6 is not REACHED", x.node(6, 3), Checks.NONE);
        checks.due("that of a STOP that is not REACHED", x.aim(5, 1, 4), 0);
        checks.due("is kept", x.aim(5, 1, 5), 4);
        checks.due("that of the last one", x.aim(7, 0, 1), 0);
        checks.due("is kept, too", x.node(7, 1), 1);
    }

    @Says(promise = 10, words = "UNKNOWN: node, to; OUTSIDE: which (0, 1).")
    static void aimRefused(Checks checks) {
        FlowFold x = Checks.read(LOOPED);
        checks.refusedBeyond(0, 5, x, "aim(.., 0, 0)", node -> x.aim(node, 0, 0), Checks.UNKNOWN);
        checks.refusedBeyond(0, 5, x, "aim(0, 0, ..)", to -> x.aim(0, 0, to), Checks.UNKNOWN);
        checks.refusedBeyond(0, 5, x, "aim(0, 1, ..)", to -> x.aim(0, 1, to), Checks.UNKNOWN);
        checks.refusedBeyond(0, 5, x, "aim(.., 2, 0)", node -> x.aim(node, 2, 0), Checks.UNKNOWN);
        checks.refusedBeyond(0, 5, x, "aim(0, 2, ..)", to -> x.aim(0, 2, to), Checks.UNKNOWN);
        checks.refusedBeyond(0, 1, x, "aim(0, .., 3)", which -> x.aim(0, which, 3), Checks.OUTSIDE);
    }

    @Says(promise = 11, words = "A NODE is of another KIND: of which it was.")
    static void kindsChanged(Checks checks) {
        FlowFold x = Checks.read("n1,e");
        int was = 0;
        for (int kind : new int[] {0, 4, 4, 3, 1, 2, 2, 0, 1, 0, 2, 3, 4, 1, 3, 0}) {
            checks.due("be(0, " + kind + ")", x.be(0, kind), was);
            checks.due("node(0, 0)", x.node(0, 0), kind);
            checks.due("its EDGES", x.count(2), "12022".charAt(kind) - '0');
            checks.due("its FIRST stays", x.node(0, 1), 1);
            was = kind;
        }
        checks.due("one that is not REACHED", Checks.read("e,e,e,e,e,e,e,n0").be(7, 2), 0);
    }

    @Says(promise = 11, words = "UNKNOWN; OUTSIDE: kind (0 to 4).")
    static void beRefused(Checks checks) {
        FlowFold x = Checks.read(LOOPED);
        checks.refusedBeyond(0, 5, x, "be(.., 0)", node -> x.be(node, 0), Checks.UNKNOWN);
        checks.refusedBeyond(0, 5, x, "be(.., 5)", node -> x.be(node, 5), Checks.UNKNOWN);
        checks.refusedBeyond(0, 4, x, "be(0, ..)", kind -> x.be(0, kind), Checks.OUTSIDE);
        checks.refusedBeyond(0, 4, x, "be(5, ..)", kind -> x.be(5, kind), Checks.OUTSIDE);
    }
}
