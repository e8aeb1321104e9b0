import java.util.Arrays;

/** A graph of jumps, folded into loops, blocks and ways out of them. */
public final class FlowFold {
    public static final int NONE = -1, UNKNOWN = -101, OUTSIDE = -102, STATE = -103, FULL = -104;

    private static final int NODES_MOST = 8;
    private static final int LETTERS_MOST = 34;
    private static final int VISITS_MOST = 30;
    private static final int SEEN_MOST = 6;
    private static final int MENDS_MOST = 5;
    private static final int LEFT_OUT_MOST = 3;
    private static final int EDGES_MOST = 2 * NODES_MOST;
    // A NODE brings nine SIGNS at most: itself, two of a LOOP, two of a BLOCK, four of its EDGES.
    private static final int SIGNS_MOST = 9 * NODES_MOST;
    private static final int OPEN_MOST = 2 * NODES_MOST;
    private static final int DRAWN_MOST = 8;
    private static final int DRAWN_NODES = 5;

    private static final String KIND_LETTERS = "nfext";
    private static final int STRAIGHT = 0;
    private static final int FORK = 1;
    private static final int STOP = 2;
    private static final int FLIP = 3;
    private static final int THIRD = 4;
    private static final int KINDS = 5;

    private static final int FIRST = 0;
    private static final int SECOND = 1;
    private static final int ENDED = 2;
    private static final int LOOKED_MOST = 3;

    private static final int LEADS_ON = 0;
    private static final int IS_BACK = 1;
    private static final int IS_BAD = 2;

    private static final int LOOP = 100;
    private static final int BLOCK = 200;
    private static final int LOOP_END = 300;
    private static final int BLOCK_END = 301;
    private static final int BETWEEN = 400;
    private static final int BEHIND = 401;
    private static final int OUT_TO_LOOP = 500;
    private static final int OUT_OF_BLOCK = 600;

    private static final int NODE_WHATS = 10;
    private static final int FOLD_WHATS = 4;
    private static final int COUNT_WHATS = 12;

    private final Page page = new Page();
    private final Jumps jumps = new Jumps();
    private final Flow flow = new Flow(jumps);
    private final Signs signs = new Signs(jumps, flow);
    private final Way way = new Way();
    private final Seen seen = new Seen();
    private final Jumps keptJumps = new Jumps();
    private final Seen keptSeen = new Seen();
    // What is read, mended or drawn is tried here, so that a refusal changes nothing.
    private final Jumps draft = new Jumps();
    private final Flow trial = new Flow(draft);
    private boolean kept;
    private int timesRead;
    private int timesMended;

    public FlowFold() {
    }

    // ---- the graph

    public int letter(int code) {
        if (code < 32 || code > 126) {
            return OUTSIDE;
        }
        return page.add(code) ? page.size : FULL;
    }

    public int blank() {
        int had = page.size;
        page.size = 0;
        return had;
    }

    public int fault() {
        return page.readInto(draft);
    }

    public int graph() {
        if (page.readInto(draft) < page.size || !page.whole || page.highest >= draft.nodes) {
            return STATE;
        }
        page.size = 0;
        timesRead++;
        kept = false;
        way.size = 0;
        seen.size = 0;
        jumps.copyFrom(draft);
        lookAnew();
        return jumps.nodes;
    }

    // ---- nodes

    public int node(int node, int what) {
        if (!jumps.has(node)) {
            return UNKNOWN;
        }
        switch (what) {
            case 0: return jumps.kinds[node];
            case 1: return jumps.firsts[node];
            case 2: return jumps.seconds[node];
            case 3: return flow.placeOf(node);
            case 4: return flow.lordOf(node);
            case 5: return flow.isHead(node) ? 1 : 0;
            case 6: return flow.isMerge(node) ? 1 : 0;
            case 7: return flow.ruledBy(node);
            case 8: return seen.sortsOf(node);
            case 9: return seen.askFor(node);
            default: return OUTSIDE;
        }
    }

    public int as(int node, int kind) {
        if (!jumps.has(node)) {
            return UNKNOWN;
        }
        if (!isKind(kind)) {
            return OUTSIDE;
        }
        int own = jumps.kinds[node];
        boolean such = kind == own || kind == STRAIGHT || (kind == FLIP && own == THIRD);
        return such ? node : NONE;
    }

    public int dominates(int one, int other) {
        if (!jumps.has(one) || !jumps.has(other)) {
            return UNKNOWN;
        }
        return flow.rules(one, other) ? 1 : 0;
    }

    public int edge(int node, int which) {
        if (!jumps.has(node)) {
            return UNKNOWN;
        }
        if (!isEnd(which)) {
            return OUTSIDE;
        }
        return flow.stateOf(node, which);
    }

    // ---- what is done

    public int aim(int node, int which, int to) {
        if (!jumps.has(node) || !jumps.has(to)) {
            return UNKNOWN;
        }
        if (!isEnd(which)) {
            return OUTSIDE;
        }
        int was = jumps.target(node, which);
        jumps.put(node, which, to);
        lookAnew();
        return was;
    }

    public int be(int node, int kind) {
        if (!jumps.has(node)) {
            return UNKNOWN;
        }
        if (!isKind(kind)) {
            return OUTSIDE;
        }
        int was = jumps.kinds[node];
        jumps.kinds[node] = kind;
        lookAnew();
        return was;
    }

    // ---- walks

    public int walk(int input) {
        if (input < 0) {
            return OUTSIDE;
        }
        if (jumps.nodes == 0) {
            return STATE;
        }
        way.go(jumps, input);
        return way.size;
    }

    public int visit(int number) {
        return number >= 0 && number < way.size ? way.row[number] : UNKNOWN;
    }

    // ---- the fold

    public int sign(int number) {
        return number >= 0 && number < signs.size ? signs.row[number] : UNKNOWN;
    }

    public int fold(int what) {
        if (what < 0 || what >= FOLD_WHATS) {
            return OUTSIDE;
        }
        if (jumps.nodes == 0) {
            return STATE;
        }
        if (!flow.folds()) {
            return NONE;
        }
        switch (what) {
            case 0: return signs.size;
            case 1: return signs.waysOut;
            case 2: return signs.depths;
            default: return signs.openMost;
        }
    }

    public int mend(int what) {
        if (what < 0 || what > 1) {
            return OUTSIDE;
        }
        if (jumps.nodes == 0 || timesMended >= MENDS_MOST) {
            return STATE;
        }
        timesMended++;
        int leftOut = fewestLeftOut();
        return what == 1 || leftOut == NONE ? leftOut : Integer.bitCount(leftOut);
    }

    // ---- what is seen

    public int see(int node, int visit, int did) {
        if (!jumps.has(node)) {
            return UNKNOWN;
        }
        if (visit < 1 || visit > LOOKED_MOST || did < FIRST || did > ENDED) {
            return OUTSIDE;
        }
        return seen.add(node, visit, did) ? seen.size : FULL;
    }

    public int forget() {
        int was = seen.size;
        seen.size = 0;
        return was;
    }

    public int drawn(int times, int seed, int what) {
        if (times < 1 || times > DRAWN_MOST || seed < 0 || what < 0 || what > 2) {
            return OUTSIDE;
        }
        int folded = 0;
        int heads = 0;
        int then = seed;
        for (int time = 0; time < times; time++) {
            then = drawDraft(then);
            trial.look(0);
            folded += trial.folds() ? 1 : 0;
            heads += Integer.bitCount(trial.heads);
        }
        switch (what) {
            case 0: return folded;
            case 1: return heads;
            default: return then;
        }
    }

    // ---- what is told of all

    public int image() {
        if (jumps.nodes == 0) {
            return STATE;
        }
        kept = true;
        keptJumps.copyFrom(jumps);
        keptSeen.copyFrom(seen);
        return jumps.nodes;
    }

    public int restore() {
        if (!kept) {
            return STATE;
        }
        jumps.copyFrom(keptJumps);
        seen.copyFrom(keptSeen);
        lookAnew();
        return jumps.nodes;
    }

    public int count(int what) {
        switch (what) {
            case 0: return jumps.nodes;
            case 1: return flow.size;
            case 2: return flow.edges;
            case 3: return flow.backs;
            case 4: return flow.bads;
            case 5: return Integer.bitCount(flow.heads);
            case 6: return Integer.bitCount(flow.merges);
            case 7: return way.size;
            case 8: return seen.size;
            case 9: return page.size;
            case 10: return timesRead;
            case 11: return timesMended;
            default: return OUTSIDE;
        }
    }

    public long digest() {
        long h = 1381;
        for (int node = 0; node < jumps.nodes; node++) {
            for (int what = 0; what < NODE_WHATS; what++) {
                h = 31 * h + node(node, what);
            }
            h = 31 * h + edge(node, FIRST);
            h = 31 * h + edge(node, SECOND);
        }
        if (jumps.nodes > 0) {
            for (int what = 0; what < FOLD_WHATS; what++) {
                h = 31 * h + fold(what);
            }
        }
        h = joined(h, signs.row, signs.size);
        h = joined(h, way.row, way.size);
        h = joined(h, page.codes, page.size);
        for (int what = 0; what < COUNT_WHATS; what++) {
            h = 31 * h + count(what);
        }
        return h;
    }

    private static long joined(long start, int[] row, int size) {
        long h = start;
        for (int i = 0; i < size && i < row.length; i++) {
            h = 31 * h + row[i];
        }
        return h;
    }

    private void lookAnew() {
        flow.look(0);
        signs.write();
    }

    private int fewestLeftOut() {
        draft.copyFrom(jumps);
        int found = NONE;
        for (int many = 0; many <= LEFT_OUT_MOST && found == NONE; many++) {
            found = leastLeftOut(many, EDGES_MOST, 0);
        }
        return found;
    }

    // The highest bit is chosen first, from below, so that the first row of bits found is the least.
    private int leastLeftOut(int many, int below, int leftOut) {
        if (many <= 0) {
            trial.look(leftOut);
            return trial.folds() ? leftOut : NONE;
        }
        for (int bit = many - 1; bit < below; bit++) {
            if (flow.stateOf(bit / 2, bit % 2) != NONE) {
                int found = leastLeftOut(many - 1, bit, leftOut | (1 << bit));
                if (found != NONE) {
                    return found;
                }
            }
        }
        return NONE;
    }

    private int drawDraft(int seed) {
        int then = seed;
        draft.nodes = DRAWN_NODES;
        for (int node = 0; node < DRAWN_NODES; node++) {
            then = nextSeed(then);
            draft.kinds[node] = drawBy(then, KINDS);
            then = nextSeed(then);
            draft.firsts[node] = drawBy(then, DRAWN_NODES);
            then = nextSeed(then);
            draft.seconds[node] = drawBy(then, DRAWN_NODES);
        }
        return then;
    }

    private static int nextSeed(int seed) {
        return (int) ((1103515245L * seed + 12345L) & 0x7fffffffL);
    }

    private static int drawBy(int seed, int sides) {
        return sides > 0 ? (seed >>> 16) % sides : 0;
    }

    private static boolean isKind(int kind) {
        return kind >= 0 && kind < KINDS;
    }

    private static boolean isEnd(int which) {
        return which == FIRST || which == SECOND;
    }

    private static int endsOf(int kind) {
        switch (kind) {
            case STRAIGHT: return 1;
            case STOP: return 0;
            default: return 2;
        }
    }

    // A FORK is asked only with the bit that it goes by; others pay no heed to it.
    private static int doesAt(int kind, int visit, int bit) {
        switch (kind) {
            case FORK: return bit;
            case STOP: return ENDED;
            case FLIP: return visit % 2 == 0 ? SECOND : FIRST;
            case THIRD: return visit % 3 == 0 ? SECOND : FIRST;
            default: return FIRST;
        }
    }

    /** THE PAGE, as codes of letters. */
    private static final class Page {
        final int[] codes = new int[LETTERS_MOST];
        int size;
        // Told of the latest reading: whether nothing is missing behind it, and its highest digit.
        boolean whole;
        int highest;

        boolean add(int code) {
            if (size >= codes.length) {
                return false;
            }
            codes[size] = code;
            size++;
            return true;
        }

        /** Reads as far as a GRAPH goes; answers the place of the first letter that fits none. */
        int readInto(Jumps into) {
            into.nodes = 0;
            whole = false;
            highest = 0;
            boolean kindDue = true;
            int digitsRead = 0;
            int digitsDue = 0;
            for (int place = 0; place < size; place++) {
                int code = codes[place];
                if (digitsRead < digitsDue) {
                    if (code < '0' || code > '7') {
                        return place;
                    }
                    into.put(into.nodes - 1, digitsRead, code - '0');
                    highest = Math.max(highest, code - '0');
                    digitsRead++;
                } else if (kindDue) {
                    int kind = KIND_LETTERS.indexOf((char) code);
                    if (!isKind(kind) || !into.grow(kind)) {
                        return place;
                    }
                    digitsRead = 0;
                    digitsDue = endsOf(kind);
                    kindDue = false;
                } else {
                    if (code != ',' || into.nodes >= NODES_MOST) {
                        return place;
                    }
                    kindDue = true;
                }
            }
            whole = !kindDue && digitsRead == digitsDue;
            return size;
        }
    }

    /** KIND, FIRST and SECOND of each NODE. */
    private static final class Jumps {
        int nodes;
        final int[] kinds = new int[NODES_MOST];
        final int[] firsts = new int[NODES_MOST];
        final int[] seconds = new int[NODES_MOST];

        boolean has(int node) {
            return node >= 0 && node < nodes;
        }

        boolean grow(int kind) {
            if (nodes >= NODES_MOST) {
                return false;
            }
            kinds[nodes] = kind;
            firsts[nodes] = 0;
            seconds[nodes] = 0;
            nodes++;
            return true;
        }

        int target(int node, int which) {
            if (!has(node)) {
                return NONE;
            }
            return which == FIRST ? firsts[node] : seconds[node];
        }

        void put(int node, int which, int to) {
            if (!has(node)) {
                return;
            }
            if (which == FIRST) {
                firsts[node] = to;
            } else {
                seconds[node] = to;
            }
        }

        void copyFrom(Jumps other) {
            nodes = other.nodes;
            System.arraycopy(other.kinds, 0, kinds, 0, NODES_MOST);
            System.arraycopy(other.firsts, 0, firsts, 0, NODES_MOST);
            System.arraycopy(other.seconds, 0, seconds, 0, NODES_MOST);
        }
    }

    /** What follows from where the EDGES lead: sets of NODES as bits, an EDGE by twice its NODE and its end. */
    private static final class Flow {
        final Jumps jumps;
        final int[] targets = new int[EDGES_MOST];
        final int[] states = new int[EDGES_MOST];
        final int[] done = new int[NODES_MOST];
        final int[] places = new int[NODES_MOST];
        final int[] rulers = new int[NODES_MOST];
        int size;
        int reached;
        int edges;
        int backs;
        int bads;
        int heads;
        int merges;

        Flow(Jumps jumps) {
            this.jumps = jumps;
        }

        /** Looks at the GRAPH without some EDGES, told as bits. */
        void look(int without) {
            findTargets(without);
            reached = 0;
            size = 0;
            doNode(0, 0);
            Arrays.fill(places, NONE);
            for (int i = 0; i < size; i++) {
                places[done[i]] = size - 1 - i;
            }
            findRulers();
            weighEdges();
        }

        boolean folds() {
            return size > 0 && bads == 0;
        }

        int nodeAt(int place) {
            return place >= 0 && place < size ? done[size - 1 - place] : NONE;
        }

        int placeOf(int node) {
            return jumps.has(node) ? places[node] : NONE;
        }

        int stateOf(int node, int which) {
            return jumps.has(node) && isEnd(which) ? states[2 * node + which] : NONE;
        }

        boolean isHead(int node) {
            return jumps.has(node) && ((heads >> node) & 1) == 1;
        }

        boolean isMerge(int node) {
            return jumps.has(node) && ((merges >> node) & 1) == 1;
        }

        boolean rules(int one, int other) {
            return jumps.has(one) && jumps.has(other) && ((rulers[other] >> one) & 1) == 1;
        }

        int ruledBy(int node) {
            int many = 0;
            for (int other = 0; other < jumps.nodes; other++) {
                many += rules(node, other) ? 1 : 0;
            }
            return many;
        }

        // All that DOMINATE a NODE stand in one chain: its LORD has all of them but the NODE itself.
        int lordOf(int node) {
            if (!jumps.has(node)) {
                return NONE;
            }
            int others = rulers[node] & ~(1 << node);
            for (int lord = 0; lord < jumps.nodes; lord++) {
                if (others != 0 && rulers[lord] == others) {
                    return lord;
                }
            }
            return NONE;
        }

        private void findTargets(int without) {
            for (int edge = 0; edge < EDGES_MOST; edge++) {
                int node = edge / 2;
                int target = jumps.target(node, edge % 2);
                boolean leads = jumps.has(node) && jumps.has(target) && edge % 2 < endsOf(jumps.kinds[node])
                    && ((without >> edge) & 1) == 0;
                targets[edge] = leads ? target : NONE;
            }
        }

        private void doNode(int node, int level) {
            if (!jumps.has(node) || level >= NODES_MOST || size >= NODES_MOST) {
                return;
            }
            reached |= 1 << node;
            for (int edge = 2 * node; edge <= 2 * node + 1; edge++) {
                int target = targets[edge];
                if (target != NONE && ((reached >> target) & 1) == 0) {
                    doNode(target, level + 1);
                }
            }
            done[size] = node;
            size++;
        }

        // Starts from all and strikes those that a way in goes round, until nothing changes:
        // each round but the last one strikes one of 64 bits at least.
        private void findRulers() {
            Arrays.fill(rulers, 0);
            for (int i = 0; i < size; i++) {
                rulers[done[i]] = done[i] == 0 ? 1 : reached;
            }
            boolean changed = true;
            for (int round = 0; changed && round <= NODES_MOST * NODES_MOST; round++) {
                changed = false;
                for (int i = size - 1; i >= 0; i--) {
                    changed |= strikeBehind(done[i], FIRST);
                    changed |= strikeBehind(done[i], SECOND);
                }
            }
        }

        private boolean strikeBehind(int node, int which) {
            int target = targets[2 * node + which];
            if (target == NONE) {
                return false;
            }
            int left = rulers[target] & (rulers[node] | (1 << target));
            boolean changed = left != rulers[target];
            rulers[target] = left;
            return changed;
        }

        private void weighEdges() {
            edges = 0;
            backs = 0;
            bads = 0;
            heads = 0;
            merges = 0;
            int ledTo = 0;
            for (int edge = 0; edge < EDGES_MOST; edge++) {
                int node = edge / 2;
                int target = targets[edge];
                states[edge] = NONE;
                if (target == NONE || ((reached >> node) & 1) == 0) {
                    continue;
                }
                edges++;
                int bit = 1 << target;
                if (places[target] > places[node]) {
                    states[edge] = LEADS_ON;
                    merges |= ledTo & bit;
                    ledTo |= bit;
                } else if ((rulers[node] & bit) != 0) {
                    states[edge] = IS_BACK;
                    backs++;
                    heads |= bit;
                } else {
                    states[edge] = IS_BAD;
                    bads++;
                }
            }
        }
    }

    /** The SIGNS of the FOLD; none, if the GRAPH cannot be FOLDED. */
    private static final class Signs {
        final Jumps jumps;
        final Flow flow;
        final int[] row = new int[SIGNS_MOST];
        int size;
        int waysOut;
        int depths;
        int openMost;
        final int[] open = new int[OPEN_MOST];
        int opened;

        Signs(Jumps jumps, Flow flow) {
            this.jumps = jumps;
            this.flow = flow;
        }

        void write() {
            size = 0;
            waysOut = 0;
            depths = 0;
            openMost = 0;
            opened = 0;
            if (flow.folds()) {
                putTree(0, 0);
            }
        }

        private void putTree(int node, int level) {
            if (!jumps.has(node) || level >= NODES_MOST) {
                return;
            }
            boolean loops = flow.isHead(node);
            if (loops) {
                putOpening(LOOP + node);
            }
            putWithin(node, level);
            if (loops) {
                putClosing(LOOP_END);
            }
        }

        private void putWithin(int node, int level) {
            for (int place = flow.size - 1; place > 0; place--) {
                if (isBlockIn(node, flow.nodeAt(place))) {
                    putOpening(BLOCK + flow.nodeAt(place));
                }
            }
            put(node);
            int ends = endsOf(jumps.kinds[node]);
            if (ends >= 1) {
                putBranch(node, FIRST, level);
            }
            if (ends == 2) {
                put(BETWEEN);
                putBranch(node, SECOND, level);
                put(BEHIND);
            }
            for (int place = 1; place < flow.size; place++) {
                if (isBlockIn(node, flow.nodeAt(place))) {
                    putClosing(BLOCK_END);
                    putTree(flow.nodeAt(place), level + 1);
                }
            }
        }

        private boolean isBlockIn(int lord, int node) {
            return flow.isMerge(node) && flow.lordOf(node) == lord;
        }

        private void putBranch(int node, int which, int level) {
            int to = jumps.target(node, which);
            if (flow.stateOf(node, which) != LEADS_ON) {
                putWayOut(OUT_TO_LOOP, depthOf(LOOP + to));
            } else if (flow.isMerge(to)) {
                putWayOut(OUT_OF_BLOCK, depthOf(BLOCK + to));
            } else {
                putTree(to, level + 1);
            }
        }

        private int depthOf(int opening) {
            int depth = 0;
            while (depth < opened && open[opened - 1 - depth] != opening) {
                depth++;
            }
            return depth;
        }

        private void putWayOut(int sign, int depth) {
            put(sign + depth);
            waysOut++;
            depths += depth;
        }

        private void putOpening(int sign) {
            put(sign);
            if (opened < open.length) {
                open[opened] = sign;
                opened++;
            }
            openMost = Math.max(openMost, opened);
        }

        private void putClosing(int sign) {
            put(sign);
            opened = Math.max(0, opened - 1);
        }

        private void put(int sign) {
            if (size < row.length) {
                row[size] = sign;
                size++;
            }
        }
    }

    /** The NODES of the latest WALK. */
    private static final class Way {
        final int[] row = new int[VISITS_MOST];
        int size;
        final int[] visits = new int[NODES_MOST];

        void go(Jumps jumps, int input) {
            Arrays.fill(visits, 0);
            size = 0;
            int rest = input;
            int node = 0;
            while (size < row.length && jumps.has(node)) {
                row[size] = node;
                size++;
                visits[node]++;
                int does = doesAt(jumps.kinds[node], visits[node], rest & 1);
                if (jumps.kinds[node] == FORK) {
                    rest >>= 1;
                }
                node = does == ENDED ? NONE : jumps.target(node, does);
            }
        }
    }

    /** What is SEEN, and what it tells of KINDS. */
    private static final class Seen {
        int size;
        final int[] nodes = new int[SEEN_MOST];
        final int[] visits = new int[SEEN_MOST];
        final int[] dids = new int[SEEN_MOST];

        boolean add(int node, int visit, int did) {
            if (size >= SEEN_MOST) {
                return false;
            }
            nodes[size] = node;
            visits[size] = visit;
            dids[size] = did;
            size++;
            return true;
        }

        void copyFrom(Seen other) {
            size = other.size;
            System.arraycopy(other.nodes, 0, nodes, 0, SEEN_MOST);
            System.arraycopy(other.visits, 0, visits, 0, SEEN_MOST);
            System.arraycopy(other.dids, 0, dids, 0, SEEN_MOST);
        }

        int sortsOf(int node) {
            int sorts = (1 << KINDS) - 1;
            for (int i = 0; i < size; i++) {
                if (nodes[i] == node) {
                    sorts &= sortsThatDo(visits[i], dids[i]);
                }
            }
            return sorts;
        }

        int askFor(int node) {
            int sorts = sortsOf(node);
            int ask = NONE;
            int fewest = KINDS + 1;
            for (int visit = 1; visit <= LOOKED_MOST && sorts != 0; visit++) {
                int worst = 0;
                for (int did = FIRST; did <= ENDED; did++) {
                    worst = Math.max(worst, Integer.bitCount(sorts & sortsThatDo(visit, did)));
                }
                if (worst < fewest) {
                    fewest = worst;
                    ask = visit;
                }
            }
            return ask;
        }

        private static int sortsThatDo(int visit, int did) {
            int sorts = 0;
            for (int kind = 0; kind < KINDS; kind++) {
                if (doesAt(kind, visit, FIRST) == did || doesAt(kind, visit, SECOND) == did) {
                    sorts |= 1 << kind;
                }
            }
            return sorts;
        }
    }
}
