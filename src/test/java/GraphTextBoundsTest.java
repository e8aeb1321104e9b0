/** Each sentence of 'What it is' and 'Terms' that names a bound of what a GRAPH is, of its NODES and of its WALKS. */
public final class GraphTextBoundsTest {
    private static final String EIGHT_STOPS = "e,e,e,e,e,e,e,e";

    public static void main(String[] args) throws Exception {
        Sentences.run(GraphTextBoundsTest.class);
    }

    private static void notRead(Checks checks, String text) {
        FlowFold none = Checks.paged(text);
        checks.refused(none, "graph() of " + text, none::graph, Checks.STATE);
        FlowFold one = Checks.read("n1,e");
        Checks.write(one, text);
        checks.refused(one, "graph() behind n1,e of " + text, one::graph, Checks.STATE);
    }

    private static void isRead(Checks checks, String text, int nodes) {
        checks.due("graph() of " + text, Checks.paged(text).graph(), nodes);
    }

    private static String zeros(int many) {
        return "0".repeat(many);
    }

    @Says(promise = 0, words = "one to eight NODES (numbered from 0)")
    static void oneToEightNodes(Checks checks) {
        for (int nodes = 1; nodes <= 8; nodes++) {
            FlowFold x = Checks.paged(EIGHT_STOPS.substring(0, 2 * nodes - 1));
            checks.due("graph() of " + nodes, x.graph(), nodes);
            checks.due("the first one", x.node(0, 0), 2);
            checks.due("the last one", x.node(nodes - 1, 0), 2);
            checks.due("ahead of the first one", x.node(-1, 0), Checks.UNKNOWN);
            checks.due("behind the last one", x.node(nodes, 0), Checks.UNKNOWN);
        }
        notRead(checks, "");
        notRead(checks, EIGHT_STOPS + ",e");
        notRead(checks, EIGHT_STOPS + "," + EIGHT_STOPS);
        isRead(checks, "f70,x61,t52,f43,x34,t25,f16,x07", 8);
        notRead(checks, "f70,x61,t52,f43,x34,t25,f16,x07,e");
    }

    @Says(promise = 0, words = "with \",\" between")
    static void commasBetween(Checks checks) {
        isRead(checks, "e,e", 2);
        for (int code = 32; code <= 126; code++) {
            if (code != ',') {
                notRead(checks, "e" + (char) code + "e");
            }
        }
        for (String text : new String[] {"ee", "n0n0", "f00f00", ",", ",e", "e,", "e,,e", "n0,,e", "e,e,", "e, e"}) {
            notRead(checks, text);
        }
    }

    @Says(promise = 0, words = "each a letter, the KIND")
    static void aLetterOfAKind(Checks checks) {
        for (int code = 32; code <= 126; code++) {
            int kind = "nfext".indexOf(code);
            for (int digits = 0; digits <= 2; digits++) {
                String text = (char) code + zeros(digits);
                if (kind >= 0 && "12022".charAt(kind) - '0' == digits) {
                    FlowFold x = Checks.read(text);
                    checks.due("the kind of " + text, x.node(0, 0), kind);
                } else {
                    notRead(checks, text);
                }
            }
        }
    }

    @Says(promise = 0, words = "as it has ENDS: none, one (the FIRST), or two (FIRST, SECOND)")
    static void asManyDigitsAsEnds(Checks checks) {
        String[] kinds = {"e", "n", "fxt"};
        for (int ends = 0; ends <= 2; ends++) {
            for (char kind : kinds[ends].toCharArray()) {
                for (int digits = 0; digits <= 4; digits++) {
                    if (digits == ends) {
                        isRead(checks, kind + zeros(digits), 1);
                        isRead(checks, "e," + kind + zeros(digits) + ",e", 3);
                    } else {
                        notRead(checks, kind + zeros(digits));
                        notRead(checks, "e," + kind + zeros(digits) + ",e");
                    }
                }
            }
        }
        FlowFold x = Checks.read("f12,n2,e");
        checks.due("the FIRST of two", x.node(0, 1), 1);
        checks.due("the SECOND of two", x.node(0, 2), 2);
        checks.due("the FIRST alone", x.node(1, 1), 2);
    }

    @Says(promise = 0, words = "digits (0 to 7, NODES that there are)")
    static void digitsOfNodes(Checks checks) {
        for (int code = 32; code <= 126; code++) {
            String text = "n" + (char) code + EIGHT_STOPS.substring(1);
            if (code >= '0' && code <= '7') {
                FlowFold x = Checks.read(text);
                checks.due("the end of " + text, x.node(0, 1), code - '0');
            } else {
                notRead(checks, text);
            }
        }
        for (int nodes = 1; nodes <= 7; nodes++) {
            String others = EIGHT_STOPS.substring(1, 2 * nodes - 1);
            isRead(checks, "n" + (nodes - 1) + others, nodes);
            isRead(checks, "f0" + (nodes - 1) + others, nodes);
            isRead(checks, "f" + (nodes - 1) + "0" + others, nodes);
            notRead(checks, "n" + nodes + others);
            notRead(checks, "f0" + nodes + others);
            notRead(checks, "f" + nodes + "0" + others);
            notRead(checks, "f07" + others);
        }
        // The NODE may come behind the digit, and the last one may name the first one.
        isRead(checks, "n1,n0", 2);
        notRead(checks, "n0,n2");
    }

    @Says(promise = 0, words = "An object is used for at most 512 calls after it has been made")
    static void all512Calls(Checks checks) {
        FlowFold x = new FlowFold();
        for (int time = 1; time <= 85; time++) {
            checks.due("letter(101), time " + time, x.letter(101), 1);
            checks.due("graph(), time " + time, x.graph(), 1);
            checks.due("walk(5), time " + time, x.walk(5), 1);
            checks.due("see(0, 1, 2), time " + time, x.see(0, 1, 2), 1);
            checks.due("image(), time " + time, x.image(), 1);
            checks.due("restore(), time " + time, x.restore(), 1);
        }
        checks.due("call 511, count(10)", x.count(10), 85);
        long h = 1381;
        int[] told = {2, 0, 0, 0, -1, 0, 0, 1, 4, 1, -1, -1, 1, 0, 0, 0, 0, 0, 1, 1, 0, 0, 0, 0, 0, 1, 1, 0, 85, 0};
        for (int number : told) {
            h = 31 * h + number;
        }
        checks.due("call 512, digest()", x.digest(), h);
    }

    @Says(promise = 0, words = "At first there is none.")
    static void noGraphAtFirst(Checks checks) {
        FlowFold x = new FlowFold();
        checks.due("count(0)", x.count(0), 0);
        checks.due("count(1)", x.count(1), 0);
        checks.due("node(0, 0)", x.node(0, 0), Checks.UNKNOWN);
        checks.due("walk(0)", x.walk(0), Checks.STATE);
        checks.due("fold(0)", x.fold(0), Checks.STATE);
    }

    @Says(promise = 0, words = "0 NODE \"n\", one END; 1 FORK \"f\", two; 2 STOP \"e\", none; 3 FLIP \"x\", two;"
        + " 4 THIRD \"t\", two.")
    static void endsOfKinds(Checks checks) {
        String[] texts = {"n0", "f00", "e", "x00", "t00"};
        int[] ends = {1, 2, 0, 2, 2};
        for (int kind = 0; kind <= 4; kind++) {
            FlowFold x = Checks.read(texts[kind]);
            checks.due("kind of " + texts[kind], x.node(0, 0), kind);
            checks.due("edges of " + texts[kind], x.count(2), ends[kind]);
            checks.due("its FIRST", x.edge(0, 0), ends[kind] >= 1 ? 1 : Checks.NONE);
            checks.due("its SECOND", x.edge(0, 1), ends[kind] == 2 ? 1 : Checks.NONE);
        }
    }

    @Says(promise = 0, words = "All are NODES; a THIRD one is a FLIP, too.")
    static void kindsThatAreOthers(Checks checks) {
        FlowFold x = Checks.read("t00,x00,n0,f00,e");
        for (int node = 0; node <= 4; node++) {
            checks.due("as(" + node + ", 0)", x.as(node, 0), node);
        }
        checks.due("a THIRD as a FLIP", x.as(0, 3), 0);
        checks.due("a FLIP as a THIRD", x.as(1, 4), Checks.NONE);
        checks.due("a NODE as a FLIP", x.as(2, 3), Checks.NONE);
        checks.due("a FORK as a FLIP", x.as(3, 3), Checks.NONE);
        checks.due("a STOP as a FLIP", x.as(4, 3), Checks.NONE);
        checks.due("a FLIP as a FORK", x.as(1, 1), Checks.NONE);
        checks.due("a THIRD as a FORK", x.as(0, 1), Checks.NONE);
    }

    @Says(promise = 0, words = "(Of each NODE a FIRST and a SECOND is kept, 0 if it was not told; its KIND tells which of"
        + " them are EDGES.)")
    static void endsKeptThoughNotTold(Checks checks) {
        // The GRAPH ahead of it told other ends.
        FlowFold x = Checks.read("f22,f22,f22");
        Checks.write(x, "n1,e,e");
        x.graph();
        checks.due("the SECOND of 0", x.node(0, 2), 0);
        checks.due("the FIRST of 1", x.node(1, 1), 0);
        checks.due("the SECOND of 1", x.node(1, 2), 0);
        checks.due("no EDGE from 1", x.edge(1, 0), Checks.NONE);
        checks.due("one EDGE", x.count(2), 1);
        x.be(1, 1);
        checks.due("1 forks, to 0", x.edge(1, 0), 1);
        checks.due("and to 0", x.edge(1, 1), 1);
        checks.due("three EDGES", x.count(2), 3);
        x.aim(1, 1, 2);
        x.be(1, 2);
        checks.due("a STOP keeps its SECOND", x.node(1, 2), 2);
        checks.due("2 is not REACHED by it", x.node(2, 3), Checks.NONE);
        x.be(1, 0);
        checks.due("nor by one of KIND 0", x.node(2, 3), Checks.NONE);
        x.be(1, 4);
        checks.due("but by a THIRD", x.node(2, 3), 2);
    }

    @Says(promise = 0, words = "a FORK by the next bit of the INPUT, from the lowest one on (0: FIRST, 1: SECOND; behind"
        + " the highest one all are 0)")
    static void forkByBits(Checks checks) {
        int[] inputs = {0, 1, 2, 3, 0x15555555, 0x2aaaaaaa, 1 << 28, 1 << 29, 1 << 30, Checks.HIGH};
        for (int input : inputs) {
            FlowFold x = Checks.read("f01,f01");
            checks.due("walk(" + input + ")", x.walk(input), 30);
            checks.due("the first visit", x.visit(0), 0);
            for (int bit = 0; bit < 29; bit++) {
                checks.due("walk(" + input + "), behind bit " + bit, x.visit(bit + 1), (input >> bit) & 1);
            }
        }
        // NODES of other KINDS take no bit.
        FlowFold y = Checks.read("n1,x22,t33,f04,e");
        checks.due("walk(2)", y.walk(2), 9);
    }

    @Says(promise = 0, words = "a FLIP to its FIRST at its first visit in this WALK, its SECOND at its second one, and so"
        + " on by turns")
    static void flipByTurns(Checks checks) {
        FlowFold x = Checks.read("x12,n0,n0");
        for (int walk = 1; walk <= 2; walk++) {
            // 15 visits of 0 are an odd number: what is left of one WALK would show in the next one.
            checks.due("walk(7)", x.walk(7), 30);
            for (int time = 1; time <= 15; time++) {
                checks.due("walk " + walk + ", behind visit " + time + " of 0", x.visit(2 * time - 1), 2 - time % 2);
            }
        }
    }

    @Says(promise = 0, words = "a THIRD to its SECOND at its third, sixth visit, and so on, else to its FIRST")
    static void thirdEachThirdTime(Checks checks) {
        FlowFold x = Checks.read("t12,n3,n3,n0");
        for (int walk = 1; walk <= 2; walk++) {
            // Ten visits of 0: what is left of one WALK would show in the next one.
            checks.due("walk(7)", x.walk(7), 30);
            for (int time = 1; time <= 10; time++) {
                checks.due("walk " + walk + ", behind visit " + time + " of 0", x.visit(3 * time - 2),
                    time % 3 == 0 ? 2 : 1);
            }
        }
        // Three visits of 0, then the STOP.
        FlowFold y = Checks.read("t01,e");
        checks.due("to the STOP", y.walk(0), 4);
        checks.due("to the STOP again", y.walk(0), 4);
        y.be(0, 3);
        checks.due("a FLIP then", y.walk(0), 3);
    }

    @Says(promise = 0, words = "at a STOP it ends")
    static void endsAtAStop(Checks checks) {
        FlowFold x = Checks.read("e,e");
        checks.due("at once", x.walk(1), 1);
        x.aim(0, 0, 1);
        x.aim(0, 1, 1);
        checks.due("also with ends that are kept", x.walk(1), 1);
        FlowFold y = Checks.read("n1,e");
        checks.due("behind one", y.walk(0), 2);
        checks.due("the STOP is visited", y.visit(1), 1);
        checks.due("nothing is behind it", y.visit(2), Checks.UNKNOWN);
    }

    @Says(promise = 0, words = "It ends behind 30 visits, too.")
    static void endsBehind30Visits(Checks checks) {
        // By the bit of the INPUT the STOP is the visit two behind it.
        for (int bit = 0; bit <= 30; bit++) {
            FlowFold x = Checks.read("f01,e");
            int visits = Math.min(bit + 2, 30);
            checks.due("walk(2^" + bit + ")", x.walk(1 << bit), visits);
            checks.due("the last visit", x.visit(visits - 1), bit <= 28 ? 1 : 0);
            checks.due("nothing is behind it", x.visit(visits), Checks.UNKNOWN);
            checks.due("count(7)", x.count(7), visits);
        }
        checks.due("round and round", Checks.read("n0").walk(0), 30);
    }
}
