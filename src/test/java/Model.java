import java.math.BigInteger;
import java.util.ArrayList;
import java.util.Arrays;
import java.util.Collections;
import java.util.HashSet;
import java.util.List;
import java.util.Set;
import java.util.TreeSet;
import java.util.regex.Matcher;
import java.util.regex.Pattern;

/** The document said a second time, by other means and with no care for speed: what FlowFold is held against. */
final class Model {
    static final int NONE = -1, UNKNOWN = -101, OUTSIDE = -102, STATE = -103, FULL = -104;
    private static final String ONE = "(n[0-7]|e|[fxt][0-7][0-7])";
    private static final Pattern GRAPH = Pattern.compile(ONE + "(," + ONE + "){0,7}");
    private static final BigInteger RING = BigInteger.TWO.pow(31);

    /** A NODE as text: its KIND's letter, and both ends as kept. */
    record Spot(char kind, int first, int second) {
        List<Integer> edges() {
            switch (kind) {
                case 'e': return List.of();
                case 'n': return List.of(first);
                default: return List.of(first, second);
            }
        }
    }

    record Sight(int node, int visit, int did) { }

    private String page = "";
    private List<Spot> spots = new ArrayList<>();
    private List<Sight> sights = new ArrayList<>();
    private List<Spot> keptSpots;
    private List<Sight> keptSights;
    private List<Integer> visits = new ArrayList<>();
    private int reads;
    private int mends;
    private View view = new View(List.of(), Set.of());

    private static boolean in(int number, int low, int high) {
        return low <= number && number <= high;
    }

    private boolean known(int node) {
        return in(node, 0, spots.size() - 1);
    }

    private static int kindNumber(char kind) {
        return "nfext".indexOf(kind);
    }

    private void change(int node, Spot spot) {
        spots.set(node, spot);
        view = new View(spots, Set.of());
    }

    int letter(int code) {
        if (!in(code, 32, 126)) {
            return OUTSIDE;
        }
        if (page.length() + 1 > 34) {
            return FULL;
        }
        page += (char) code;
        return page.length();
    }

    int blank() {
        int had = page.length();
        page = "";
        return had;
    }

    int fault() {
        for (int end = 1; end <= page.length(); end++) {
            Matcher matcher = GRAPH.matcher(page.substring(0, end));
            if (!matcher.matches() && !matcher.hitEnd()) {
                return end - 1;
            }
        }
        return page.length();
    }

    int graph() {
        if (!GRAPH.matcher(page).matches()) {
            return STATE;
        }
        List<Spot> told = new ArrayList<>();
        String[] parts = page.split(",");
        for (String part : parts) {
            for (char digit : part.substring(1).toCharArray()) {
                if (digit - '0' >= parts.length) {
                    return STATE;
                }
            }
            int first = part.length() > 1 ? part.charAt(1) - '0' : 0;
            int second = part.length() > 2 ? part.charAt(2) - '0' : 0;
            told.add(new Spot(part.charAt(0), first, second));
        }
        page = "";
        reads++;
        spots = told;
        sights = new ArrayList<>();
        visits = new ArrayList<>();
        keptSpots = null;
        keptSights = null;
        view = new View(spots, Set.of());
        return spots.size();
    }

    int node(int node, int what) {
        if (!known(node)) {
            return UNKNOWN;
        }
        if (!in(what, 0, 9)) {
            return OUTSIDE;
        }
        Spot spot = spots.get(node);
        boolean reached = view.order.contains(node);
        int[] told = {
            kindNumber(spot.kind), spot.first, spot.second, view.order.indexOf(node), view.lord(node),
            view.heads().contains(node) ? 1 : 0, view.merges().contains(node) ? 1 : 0,
            reached ? (int) view.order.stream().filter(other -> view.over(node, other)).count() : 0,
            bitsOf(sorts(node)), ask(node)};
        return told[what];
    }

    int as(int node, int kind) {
        if (!known(node)) {
            return UNKNOWN;
        }
        if (!in(kind, 0, 4)) {
            return OUTSIDE;
        }
        String[] such = {"nfext", "f", "e", "xt", "t"};
        return such[kind].indexOf(spots.get(node).kind) >= 0 ? node : NONE;
    }

    int dominates(int one, int other) {
        if (!known(one) || !known(other)) {
            return UNKNOWN;
        }
        return view.over(one, other) ? 1 : 0;
    }

    int edge(int node, int which) {
        if (!known(node)) {
            return UNKNOWN;
        }
        if (!in(which, 0, 1)) {
            return OUTSIDE;
        }
        for (Edge edge : view.edges) {
            if (edge.from == node && edge.which == which) {
                return !view.retreats(edge) ? 0 : view.back(edge) ? 1 : 2;
            }
        }
        return NONE;
    }

    int aim(int node, int which, int to) {
        if (!known(node) || !known(to)) {
            return UNKNOWN;
        }
        if (!in(which, 0, 1)) {
            return OUTSIDE;
        }
        Spot was = spots.get(node);
        change(node, which == 0 ? new Spot(was.kind, to, was.second) : new Spot(was.kind, was.first, to));
        return which == 0 ? was.first : was.second;
    }

    int be(int node, int kind) {
        if (!known(node)) {
            return UNKNOWN;
        }
        if (!in(kind, 0, 4)) {
            return OUTSIDE;
        }
        Spot was = spots.get(node);
        change(node, new Spot("nfext".charAt(kind), was.first, was.second));
        return kindNumber(was.kind);
    }

    int walk(int input) {
        if (input < 0) {
            return OUTSIDE;
        }
        if (spots.isEmpty()) {
            return STATE;
        }
        BigInteger bits = BigInteger.valueOf(input);
        int forks = 0;
        visits = new ArrayList<>();
        int at = 0;
        while (visits.size() < 30) {
            visits.add(at);
            Spot spot = spots.get(at);
            int times = Collections.frequency(visits, at);
            if (spot.kind == 'e') {
                break;
            }
            boolean second = spot.kind == 'x' && times % 2 == 0 || spot.kind == 't' && times % 3 == 0
                || spot.kind == 'f' && bits.testBit(forks);
            forks += spot.kind == 'f' ? 1 : 0;
            at = second ? spot.second : spot.first;
        }
        return visits.size();
    }

    int visit(int number) {
        return in(number, 0, visits.size() - 1) ? visits.get(number) : UNKNOWN;
    }

    int sign(int number) {
        List<Integer> signs = view.signs();
        return in(number, 0, signs.size() - 1) ? signs.get(number) : UNKNOWN;
    }

    int fold(int what) {
        if (!in(what, 0, 3)) {
            return OUTSIDE;
        }
        if (spots.isEmpty()) {
            return STATE;
        }
        if (!view.folds()) {
            return NONE;
        }
        List<Integer> signs = view.signs();
        int ways = 0;
        int depths = 0;
        int open = 0;
        int most = 0;
        for (int sign : signs) {
            if (sign >= 500) {
                ways++;
                depths += sign % 100;
            } else if (sign / 100 == 3) {
                open--;
            } else if (sign / 100 == 1 || sign / 100 == 2) {
                open++;
                most = Math.max(most, open);
            }
        }
        int[] told = {signs.size(), ways, depths, most};
        return told[what];
    }

    int mend(int what) {
        if (!in(what, 0, 1)) {
            return OUTSIDE;
        }
        if (spots.isEmpty() || mends == 5) {
            return STATE;
        }
        mends++;
        for (int many = 0; many <= 3; many++) {
            for (int bits = 0; bits < 1 << 16; bits++) {
                if (Integer.bitCount(bits) == many && allEdges(bits) && mendedBy(bits)) {
                    return what == 0 ? many : bits;
                }
            }
        }
        return NONE;
    }

    private static Set<Integer> placesOf(int bits) {
        Set<Integer> places = new TreeSet<>();
        for (int place = 0; place < 16; place++) {
            if ((bits & 1 << place) != 0) {
                places.add(place);
            }
        }
        return places;
    }

    private boolean allEdges(int bits) {
        Set<Integer> there = new HashSet<>();
        view.edges.forEach(edge -> there.add(2 * edge.from + edge.which));
        return there.containsAll(placesOf(bits));
    }

    private boolean mendedBy(int bits) {
        return new View(spots, placesOf(bits)).collapses();
    }

    int see(int node, int visit, int did) {
        if (!known(node)) {
            return UNKNOWN;
        }
        if (!in(visit, 1, 3) || !in(did, 0, 2)) {
            return OUTSIDE;
        }
        if (sights.size() == 6) {
            return FULL;
        }
        sights.add(new Sight(node, visit, did));
        return sights.size();
    }

    int forget() {
        int was = sights.size();
        sights = new ArrayList<>();
        return was;
    }

    // What each KIND can do at visits 1, 2, 3, written out.
    private static final String[][] CAN = {
        {"0", "0", "0"}, {"01", "01", "01"}, {"2", "2", "2"}, {"0", "1", "0"}, {"0", "0", "1"}};

    private static boolean can(int kind, int visit, int did) {
        return CAN[kind][visit - 1].contains(Integer.toString(did));
    }

    private Set<Integer> sorts(int node) {
        Set<Integer> sorts = new TreeSet<>(Arrays.asList(0, 1, 2, 3, 4));
        for (Sight sight : sights) {
            sorts.removeIf(kind -> sight.node == node && !can(kind, sight.visit, sight.did));
        }
        return sorts;
    }

    private static int bitsOf(Set<Integer> places) {
        return places.stream().mapToInt(place -> 1 << place).sum();
    }

    private int ask(int node) {
        Set<Integer> sorts = sorts(node);
        if (sorts.isEmpty()) {
            return NONE;
        }
        int[] worst = new int[4];
        for (int visit = 1; visit <= 3; visit++) {
            for (int did = 0; did <= 2; did++) {
                int left = 0;
                for (int kind : sorts) {
                    left += can(kind, visit, did) ? 1 : 0;
                }
                worst[visit] = Math.max(worst[visit], left);
            }
        }
        return worst[1] <= worst[2] && worst[1] <= worst[3] ? 1 : worst[2] <= worst[3] ? 2 : 3;
    }

    int drawn(int times, int seed, int what) {
        if (!in(times, 1, 8) || seed < 0 || !in(what, 0, 2)) {
            return OUTSIDE;
        }
        BigInteger[] now = {BigInteger.valueOf(seed)};
        int folded = 0;
        int heads = 0;
        for (int time = 0; time < times; time++) {
            List<Spot> five = new ArrayList<>();
            for (int node = 0; node < 5; node++) {
                five.add(new Spot("nfext".charAt(draw(now)), draw(now), draw(now)));
            }
            View one = new View(five, Set.of());
            folded += one.folds() ? 1 : 0;
            heads += one.heads().size();
        }
        int[] told = {folded, heads, now[0].intValueExact()};
        return told[what];
    }

    private static int draw(BigInteger[] now) {
        now[0] = now[0].multiply(BigInteger.valueOf(1103515245)).add(BigInteger.valueOf(12345)).mod(RING);
        return now[0].divide(BigInteger.valueOf(65536)).mod(BigInteger.valueOf(5)).intValueExact();
    }

    int image() {
        if (spots.isEmpty()) {
            return STATE;
        }
        keptSpots = new ArrayList<>(spots);
        keptSights = new ArrayList<>(sights);
        return spots.size();
    }

    int restore() {
        if (keptSpots == null) {
            return STATE;
        }
        spots = new ArrayList<>(keptSpots);
        sights = new ArrayList<>(keptSights);
        view = new View(spots, Set.of());
        return spots.size();
    }

    int count(int what) {
        if (!in(what, 0, 11)) {
            return OUTSIDE;
        }
        int backs = 0;
        int bads = 0;
        for (Edge edge : view.edges) {
            backs += view.back(edge) ? 1 : 0;
            bads += view.bad(edge) ? 1 : 0;
        }
        int[] told = {spots.size(), view.order.size(), view.edges.size(), backs, bads, view.heads().size(),
            view.merges().size(), visits.size(), sights.size(), page.length(), reads, mends};
        return told[what];
    }

    long digest() {
        List<Integer> all = new ArrayList<>();
        for (int node = 0; node < spots.size(); node++) {
            for (int what = 0; what <= 9; what++) {
                all.add(node(node, what));
            }
            all.add(edge(node, 0));
            all.add(edge(node, 1));
        }
        for (int what = 0; what <= 3 && !spots.isEmpty(); what++) {
            all.add(fold(what));
        }
        all.addAll(view.signs());
        all.addAll(visits);
        for (char letter : page.toCharArray()) {
            all.add((int) letter);
        }
        for (int what = 0; what <= 11; what++) {
            all.add(count(what));
        }
        BigInteger h = BigInteger.valueOf(1381);
        for (int number : all) {
            h = h.multiply(BigInteger.valueOf(31)).add(BigInteger.valueOf(number));
        }
        return h.longValue();
    }

    record Edge(int from, int which, int to) { }

    /** What follows from a GRAPH without some of its EDGES. */
    static final class View {
        final List<Integer> order = new ArrayList<>();
        final List<Edge> edges = new ArrayList<>();
        private final List<Spot> spots;
        private final Set<Integer> without;

        View(List<Spot> spots, Set<Integer> without) {
            this.spots = List.copyOf(spots);
            this.without = without;
            if (!spots.isEmpty()) {
                doIt(0, new HashSet<>());
            }
            Collections.reverse(order);
            for (int node = 0; node < spots.size(); node++) {
                if (order.contains(node)) {
                    edges.addAll(edgesOf(node));
                }
            }
        }

        private List<Edge> edgesOf(int node) {
            List<Edge> found = new ArrayList<>();
            List<Integer> ends = spots.get(node).edges();
            for (int which = 0; which < ends.size(); which++) {
                if (!without.contains(2 * node + which)) {
                    found.add(new Edge(node, which, ends.get(which)));
                }
            }
            return found;
        }

        private void doIt(int node, Set<Integer> begun) {
            begun.add(node);
            for (Edge edge : edgesOf(node)) {
                if (!begun.contains(edge.to)) {
                    doIt(edge.to, begun);
                }
            }
            order.add(node);
        }

        // All ways lead over one, if none is left once it is shut.
        boolean over(int one, int other) {
            if (!order.contains(one) || !order.contains(other)) {
                return false;
            }
            Set<Integer> open = new HashSet<>();
            spread(0, one, open);
            return !open.contains(other);
        }

        private void spread(int node, int shut, Set<Integer> open) {
            if (node == shut || !open.add(node)) {
                return;
            }
            edgesOf(node).forEach(edge -> spread(edge.to, shut, open));
        }

        int lord(int node) {
            List<Integer> others = new ArrayList<>(order);
            others.removeIf(other -> other == node || !over(other, node));
            for (int lord : others) {
                if (others.stream().allMatch(other -> over(other, lord))) {
                    return lord;
                }
            }
            return NONE;
        }

        boolean retreats(Edge edge) {
            return order.indexOf(edge.to) <= order.indexOf(edge.from);
        }

        boolean back(Edge edge) {
            return over(edge.to, edge.from);
        }

        boolean bad(Edge edge) {
            return retreats(edge) && !back(edge);
        }

        boolean folds() {
            return edges.stream().noneMatch(this::bad);
        }

        Set<Integer> heads() {
            Set<Integer> heads = new TreeSet<>();
            edges.stream().filter(this::back).forEach(edge -> heads.add(edge.to));
            return heads;
        }

        Set<Integer> merges() {
            Set<Integer> merges = new TreeSet<>(order);
            merges.removeIf(node -> edges.stream().filter(edge -> edge.to == node && !retreats(edge)).count() < 2);
            return merges;
        }

        // A graph folds just if taking away circles of one node, and joining a node
        // to the only one that leads to it, leaves one node.
        boolean collapses() {
            Set<List<Integer>> pairs = new HashSet<>();
            Set<Integer> left = new TreeSet<>(order);
            edges.forEach(edge -> pairs.add(List.of(edge.from, edge.to)));
            boolean joined = true;
            while (joined) {
                joined = false;
                pairs.removeIf(pair -> pair.get(0).equals(pair.get(1)));
                for (int node : left) {
                    List<List<Integer>> ins = pairs.stream().filter(pair -> pair.get(1) == node).toList();
                    if (node != 0 && ins.size() == 1) {
                        join(pairs, ins.get(0).get(0), node);
                        left.remove(node);
                        joined = true;
                        break;
                    }
                }
            }
            return left.size() <= 1;
        }

        private static void join(Set<List<Integer>> pairs, int into, int node) {
            for (List<Integer> pair : List.copyOf(pairs)) {
                if (pair.get(0) == node) {
                    pairs.remove(pair);
                    pairs.add(List.of(into, pair.get(1)));
                }
            }
            pairs.remove(List.of(into, node));
        }

        List<Integer> signs() {
            return order.isEmpty() || !folds() ? List.of() : tree(0, List.of());
        }

        // The open ones are told as texts, the innermost first.
        private List<Integer> tree(int node, List<String> open) {
            if (!heads().contains(node)) {
                return within(node, open);
            }
            List<Integer> signs = new ArrayList<>(List.of(100 + node));
            signs.addAll(within(node, inner("loop " + node, open)));
            signs.add(300);
            return signs;
        }

        private static List<String> inner(String name, List<String> open) {
            List<String> more = new ArrayList<>(open);
            more.add(0, name);
            return more;
        }

        private List<Integer> within(int node, List<String> open) {
            List<Integer> blocks = new ArrayList<>(order);
            blocks.removeIf(vassal -> lord(vassal) != node || !merges().contains(vassal));
            return blocksOf(node, blocks, open);
        }

        // The last block is the outermost one: all others stand in it, and its tree behind it.
        private List<Integer> blocksOf(int node, List<Integer> blocks, List<String> open) {
            if (blocks.isEmpty()) {
                return core(node, open);
            }
            int last = blocks.get(blocks.size() - 1);
            List<Integer> signs = new ArrayList<>(List.of(200 + last));
            signs.addAll(blocksOf(node, blocks.subList(0, blocks.size() - 1), inner("block " + last, open)));
            signs.add(301);
            signs.addAll(tree(last, open));
            return signs;
        }

        private List<Integer> core(int node, List<String> open) {
            List<Integer> signs = new ArrayList<>(List.of(node));
            List<Edge> ends = edgesOf(node);
            for (Edge edge : ends) {
                signs.addAll(branch(edge, open));
                if (ends.size() == 2) {
                    signs.add(400 + edge.which);
                }
            }
            return signs;
        }

        private List<Integer> branch(Edge edge, List<String> open) {
            if (retreats(edge)) {
                return List.of(500 + open.indexOf("loop " + edge.to));
            }
            if (merges().contains(edge.to)) {
                return List.of(600 + open.indexOf("block " + edge.to));
            }
            return tree(edge.to, open);
        }
    }
}
