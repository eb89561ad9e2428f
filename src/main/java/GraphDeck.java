/**
 * A workshop for the reconstruction of graphs from their vertex-deleted
 * subgraphs, which are called cards. It edits one graph and analyzes it, and
 * beside it holds a deck of cards, from which it reconstructs graphs.
 *
 * Every array is made with the object and used again, so that no call makes
 * anything that stays behind.
 */
public final class GraphDeck {
    public static final int BAD = -1, STATE = -2, FULL = -3, NONE = -9;

    private static final int FIRST_SIZE = 4;
    private static final int MOST_VERTICES = 8;
    private static final int LEAST_HELD = 3;
    private static final int MOST_HELD = 6;
    private static final int NOBODY = -1;

    private final Graph graph = new Graph();
    private final Deck held = new Deck();
    private final History history = new History();
    private final Canon canon = new Canon();
    private final Symmetry symmetry = new Symmetry();
    private final Counting counting = new Counting();
    private final Answers answers = new Answers();
    private final Deck scratch = new Deck();

    public GraphDeck() {
    }

    public int begin(int n) {
        if (n < 1 || n > MOST_VERTICES) {
            return BAD;
        }
        int before = graph.size();
        history.save(graph, held);
        graph.load(n, 0);
        return before;
    }

    public int edge(int u, int v, int on) {
        if (!graph.has(u) || !graph.has(v) || u == v || on < 0 || on > 1) {
            return BAD;
        }
        int before = graph.link(u, v);
        history.save(graph, held);
        graph.setLink(u, v, on);
        return before;
    }

    public int become(int code) {
        if (!isCode(graph.size(), code)) {
            return BAD;
        }
        int before = graph.code();
        history.save(graph, held);
        graph.load(graph.size(), code);
        return before;
    }

    public int undo() {
        if (history.size() == 0) {
            return STATE;
        }
        history.restore(graph, held);
        return history.size();
    }

    public int told(int what) {
        switch (what) {
            case 0: return graph.size();
            case 1: return graph.edges();
            case 2: return graph.code();
            case 3: return canon.of(graph.size(), graph.code());
            case 4: return symmetry.automorphisms(graph);
            case 5: return symmetry.classes(graph);
            case 6: return differentCards();
            case 7: return graph.components();
            case 8: return pseudoSimilarPairs();
            case 9: return history.size();
            default: return BAD;
        }
    }

    public int vertex(int v, int what) {
        if (!graph.has(v) || what < 0 || what > 5) {
            return BAD;
        }
        if (what >= 2 && graph.size() == 1) {
            return NONE;
        }
        switch (what) {
            case 0: return graph.degree(v);
            case 1: return graph.row(v);
            case 2: return cardCode(v);
            case 3: return graph.edges() - graph.degree(v);
            case 4: return symmetry.similarTo(graph, v);
            default: return pseudoSimilarTo(v);
        }
    }

    public int image(int u, int v, int x) {
        if (!graph.has(u) || !graph.has(v) || !graph.has(x)) {
            return BAD;
        }
        return symmetry.find(graph, 0, u, v) ? symmetry.imageOf(x) : NONE;
    }

    public int copies(int pattern) {
        return Patterns.isPattern(pattern) ? Patterns.count(graph, pattern) : BAD;
    }

    public int hold(int h) {
        if (h < LEAST_HELD || h > MOST_HELD) {
            return BAD;
        }
        int before = held.size();
        history.save(graph, held);
        held.start(h);
        return before;
    }

    public int keepDeck() {
        if (graph.size() < LEAST_HELD || graph.size() > MOST_HELD) {
            return STATE;
        }
        history.save(graph, held);
        held.fill(graph, canon);
        return held.size();
    }

    public int addCard(int code) {
        if (!isCode(held.h() - 1, code)) {
            return BAD;
        }
        if (held.lost() == 0) {
            return FULL;
        }
        history.save(graph, held);
        return held.put(canon.of(held.h() - 1, code));
    }

    public int dropCard(int k) {
        if (!held.has(k)) {
            return BAD;
        }
        history.save(graph, held);
        held.removeAt(k);
        return held.size();
    }

    public int card(int k, int what) {
        if (!held.has(k)) {
            return BAD;
        }
        switch (what) {
            case 0: return held.codeAt(k);
            case 1: return Integer.bitCount(held.codeAt(k));
            case 2: return held.howOften(held.codeAt(k));
            case 3: return counting.degree(held, k);
            case 4: return answersWithout(k);
            default: return BAD;
        }
    }

    public int deck(int what) {
        if ((what == 6 || what == 7) && held.size() == 0) {
            return STATE;
        }
        switch (what) {
            case 0: return held.h();
            case 1: return held.size();
            case 2: return held.different();
            case 3: return held.lost();
            case 4: return counting.edges(held);
            case 5: return counting.firstFailed(held);
            case 6: return answers.find(held, held.everyCard(), canon);
            case 7: return enoughCards();
            case 8: return isDeckOfGraph() ? 1 : 0;
            default: return BAD;
        }
    }

    public int counted(int pattern) {
        return Patterns.isPattern(pattern) ? counting.patterns(held, pattern) : BAD;
    }

    public int answer(int k) {
        if (k < 0) {
            return BAD;
        }
        if (held.size() == 0) {
            return STATE;
        }
        return k < answers.find(held, held.everyCard(), canon) ? answers.codeAt(k) : NONE;
    }

    public int missing(int k) {
        if (k < 0) {
            return BAD;
        }
        if (held.size() == 0) {
            return STATE;
        }
        if (answers.find(held, held.everyCard(), canon) != 1) {
            return NONE;
        }
        answers.deckOf(0, scratch, canon);
        return scratch.leftAfter(held, k);
    }

    public int accept(int k) {
        if (k < 0 || held.size() == 0 || k >= answers.find(held, held.everyCard(), canon)) {
            return BAD;
        }
        history.save(graph, held);
        graph.load(held.h(), answers.codeAt(k));
        return graph.edges();
    }

    private static boolean isCode(int size, int code) {
        return code >= 0 && code < 1 << size * (size - 1) / 2;
    }

    private int cardCode(int v) {
        return canon.of(graph.size() - 1, graph.codeWithout(v));
    }

    private int differentCards() {
        if (graph.size() == 1) {
            return 0;
        }
        scratch.fill(graph, canon);
        return scratch.different();
    }

    private int pseudoSimilarTo(int v) {
        int code = cardCode(v);
        int set = 0;
        for (int u = 0; u < graph.size(); u++) {
            if (u != v && cardCode(u) == code && !symmetry.find(graph, 0, u, v)) {
                set |= 1 << u;
            }
        }
        return set;
    }

    private int pseudoSimilarPairs() {
        if (graph.size() == 1) {
            return 0;
        }
        int ends = 0;
        for (int v = 0; v < graph.size(); v++) {
            ends += Integer.bitCount(pseudoSimilarTo(v));
        }
        return ends / 2;
    }

    private int answersWithout(int k) {
        if (held.size() == 1) {
            return NONE;
        }
        return answers.find(held, held.everyCard() & ~(1 << k), canon);
    }

    private int enoughCards() {
        if (held.h() == MOST_HELD || answers.find(held, held.everyCard(), canon) != 1) {
            return NONE;
        }
        for (int many = 1; many < held.size(); many++) {
            for (int choice = 1; choice < held.everyCard(); choice++) {
                if (Integer.bitCount(choice) == many && answers.find(held, choice, canon) == 1) {
                    return many;
                }
            }
        }
        return held.size();
    }

    private boolean isDeckOfGraph() {
        if (graph.size() != held.h() || held.lost() != 0) {
            return false;
        }
        scratch.fill(graph, canon);
        return scratch.contains(held);
    }

    /** A graph: bit u of row v tells whether u and v are adjacent. */
    private static final class Graph {
        private final int[] rows = new int[MOST_VERTICES];
        private int size = FIRST_SIZE;

        void load(int newSize, int code) {
            if (newSize < 1 || newSize > MOST_VERTICES) {
                return;
            }
            size = newSize;
            for (int v = 0; v < MOST_VERTICES; v++) {
                rows[v] = 0;
            }
            int rest = code;
            for (int v = size - 1; v > 0; v--) {
                for (int u = v - 1; u >= 0; u--) {
                    rows[v] |= (rest & 1) << u;
                    rows[u] |= (rest & 1) << v;
                    rest >>= 1;
                }
            }
        }

        int size() {
            return size;
        }

        boolean has(int v) {
            return v >= 0 && v < size;
        }

        int row(int v) {
            return v >= 0 && v < size ? rows[v] : 0;
        }

        int link(int u, int v) {
            return row(u) >> v & 1;
        }

        void setLink(int u, int v, int on) {
            if (!has(u) || !has(v)) {
                return;
            }
            rows[u] = rows[u] & ~(1 << v) | on << v;
            rows[v] = rows[v] & ~(1 << u) | on << u;
        }

        int degree(int v) {
            return Integer.bitCount(row(v));
        }

        int edges() {
            int ends = 0;
            for (int v = 0; v < size; v++) {
                ends += Integer.bitCount(rows[v]);
            }
            return ends / 2;
        }

        int code() {
            return codeWithout(NOBODY);
        }

        int codeWithout(int x) {
            int code = 0;
            for (int v = 1; v < size; v++) {
                for (int u = 0; u < v; u++) {
                    if (u != x && v != x) {
                        code = code << 1 | rows[v] >> u & 1;
                    }
                }
            }
            return code;
        }

        int components() {
            int unseen = (1 << size) - 1;
            int found = 0;
            for (int v = 0; v < size; v++) {
                if ((unseen >> v & 1) == 1) {
                    found++;
                    unseen &= ~reachedFrom(v);
                }
            }
            return found;
        }

        private int reachedFrom(int v) {
            int reached = 1 << v;
            for (int steps = 1; steps < size; steps++) {
                reached |= neighboursOf(reached);
            }
            return reached;
        }

        private int neighboursOf(int set) {
            int neighbours = 0;
            for (int v = 0; v < size; v++) {
                if ((set >> v & 1) == 1) {
                    neighbours |= rows[v];
                }
            }
            return neighbours;
        }

        int edgesWithin(int set) {
            int ends = 0;
            for (int v = 0; v < size; v++) {
                if ((set >> v & 1) == 1) {
                    ends += Integer.bitCount(rows[v] & set);
                }
            }
            return ends / 2;
        }
    }

    /**
     * Finds canonical codes. A code lists, vertex by vertex, the column of each
     * vertex's links to the vertices numbered before it; so the smallest code
     * is found by numbering vertex after vertex, each time only one whose
     * column is the least.
     */
    private static final class Canon {
        private static final int SLOT_BITS = 11;
        private static final int SPREAD = 0x9E3779B1;
        private static final int UNKNOWN = 1 << MOST_VERTICES;

        private final Graph graph = new Graph();
        // Byte u of links[v] is 1 if u and v are adjacent: so the columns of
        // all vertices, a byte each, lengthen in one step.
        private final long[] links = new long[MOST_VERTICES];
        private final int[] lowerTwins = new int[MOST_VERTICES];
        private final int[] best = new int[MOST_VERTICES];
        // Answers ask for the same small cards again and again, so codes are
        // remembered, each until another graph comes into its slot.
        private final int[] knownGraphs = new int[1 << SLOT_BITS];
        private final int[] knownCodes = new int[1 << SLOT_BITS];

        int of(int size, int code) {
            // No graph has 0 vertices, so the name of a graph is never the 0 of an empty slot.
            int name = size << 28 | code;
            int slot = name * SPREAD >>> 32 - SLOT_BITS;
            if (knownGraphs[slot] != name) {
                prepare(size, code);
                number(this, 0, (1 << graph.size()) - 1, 0L);
                knownGraphs[slot] = name;
                knownCodes[slot] = bestCode();
            }
            return knownCodes[slot];
        }

        private void prepare(int size, int code) {
            graph.load(size, code);
            forgetFrom(0);
            for (int v = 0; v < MOST_VERTICES; v++) {
                int row = graph.row(v);
                links[v] = 0L;
                lowerTwins[v] = 0;
                for (int u = 0; u < MOST_VERTICES; u++) {
                    links[v] |= (long) (row >> u & 1) << 8 * u;
                    // Twins have the same neighbours but for each other.
                    int others = ~(1 << u | 1 << v);
                    if (u < v && (row & others) == (graph.row(u) & others)) {
                        lowerTwins[v] |= 1 << u;
                    }
                }
            }
        }

        private void forgetFrom(int level) {
            for (int later = level; later < MOST_VERTICES; later++) {
                best[later] = UNKNOWN;
            }
        }

        private static void number(Canon c, int level, int left, long columns) {
            if (level < 0 || level >= c.graph.size()) {
                return;
            }
            int least = c.leastColumn(left, columns);
            if (least > c.best[level]) {
                return;
            }
            if (least < c.best[level]) {
                c.forgetFrom(level);
                c.best[level] = least;
            }
            int tried = 0;
            for (int v = 0; v < c.graph.size(); v++) {
                boolean fits = (left >> v & 1) == 1 && (columns >> 8 * v & 255) == least;
                // Of twins, either one leads to the same codes.
                if (fits && (tried & c.lowerTwins[v]) == 0) {
                    tried |= 1 << v;
                    number(c, level + 1, left & ~(1 << v), columns << 1 | c.links[v]);
                }
            }
        }

        private int leastColumn(int left, long columns) {
            int least = UNKNOWN;
            for (int v = 0; v < graph.size(); v++) {
                int column = (int) (columns >> 8 * v) & 255;
                if ((left >> v & 1) == 1 && column < least) {
                    least = column;
                }
            }
            return least;
        }

        private int bestCode() {
            int code = 0;
            for (int v = 1; v < graph.size(); v++) {
                code = code << v | best[v];
            }
            return code;
        }
    }

    /** Finds automorphisms. */
    private static final class Symmetry {
        private final int[] images = new int[MOST_VERTICES];
        private int from;
        private int to;

        /**
         * Finds the automorphism that maps u to v and whose list of images is
         * the smallest; the vertices below "fixed" stay where they are.
         */
        boolean find(Graph g, int fixed, int u, int v) {
            from = u;
            to = v;
            int used = 0;
            for (int w = 0; w < fixed && w < g.size(); w++) {
                images[w] = w;
                used |= 1 << w;
            }
            return extend(this, g, fixed, used);
        }

        int imageOf(int x) {
            return x >= 0 && x < MOST_VERTICES ? images[x] : NOBODY;
        }

        private static boolean extend(Symmetry s, Graph g, int x, int used) {
            if (!g.has(x)) {
                return true;
            }
            for (int y = 0; y < g.size(); y++) {
                if ((used >> y & 1) == 0 && s.fits(g, x, y)) {
                    s.images[x] = y;
                    if (extend(s, g, x + 1, used | 1 << y)) {
                        return true;
                    }
                }
            }
            return false;
        }

        private boolean fits(Graph g, int x, int y) {
            int rowX = g.row(x);
            int rowY = g.row(y);
            if ((x == from) != (y == to) || Integer.bitCount(rowX) != Integer.bitCount(rowY)) {
                return false;
            }
            if ((rowX >> from & 1) != (rowY >> to & 1)) {
                return false;
            }
            for (int w = 0; w < x && w < MOST_VERTICES; w++) {
                if ((rowX >> w & 1) != (rowY >> images[w] & 1)) {
                    return false;
                }
            }
            return true;
        }

        // With the vertices below v fixed, each image of v is reached by
        // equally many automorphisms; so the numbers of images multiply.
        int automorphisms(Graph g) {
            int number = 1;
            for (int v = 0; v < g.size(); v++) {
                int reached = 0;
                for (int w = v; w < g.size(); w++) {
                    if (find(g, v, v, w)) {
                        reached++;
                    }
                }
                number *= reached;
            }
            return number;
        }

        int similarTo(Graph g, int v) {
            int set = 0;
            for (int u = 0; u < g.size(); u++) {
                if (u != v && find(g, 0, v, u)) {
                    set |= 1 << u;
                }
            }
            return set;
        }

        int classes(Graph g) {
            int number = 0;
            int unseen = (1 << g.size()) - 1;
            for (int v = 0; v < g.size(); v++) {
                if ((unseen >> v & 1) == 1) {
                    number++;
                    unseen &= ~similarTo(g, v);
                }
            }
            return number;
        }
    }

    /** Counts copies of the patterns. */
    private static final class Patterns {
        private static final int[] VERTICES = {2, 3, 3, 4, 4, 4, 4, 4, 4};

        static boolean isPattern(int pattern) {
            return pattern >= 0 && pattern < VERTICES.length;
        }

        static int vertices(int pattern) {
            return isPattern(pattern) ? VERTICES[pattern] : 0;
        }

        static int count(Graph g, int pattern) {
            switch (pattern) {
                case 0: return g.edges();
                case 1: return cherries(g);
                case 2: return triangles(g);
                case 3: return claws(g);
                case 4: return longPaths(g);
                case 5: return squares(g);
                case 6: return paws(g);
                case 7: return diamonds(g);
                case 8: return tetrahedra(g);
                default: return 0;
            }
        }

        private static int pairs(int n) {
            return n * (n - 1) / 2;
        }

        private static int common(Graph g, int u, int v) {
            return g.row(u) & g.row(v);
        }

        private static int cherries(Graph g) {
            int sum = 0;
            for (int v = 0; v < g.size(); v++) {
                sum += pairs(g.degree(v));
            }
            return sum;
        }

        private static int triangles(Graph g) {
            int corners = 0;
            for (int v = 0; v < g.size(); v++) {
                corners += g.edgesWithin(g.row(v));
            }
            return corners / 3;
        }

        private static int claws(Graph g) {
            int sum = 0;
            for (int v = 0; v < g.size(); v++) {
                sum += pairs(g.degree(v)) * (g.degree(v) - 2) / 3;
            }
            return sum;
        }

        // An edge with one more edge at each end is a path, or, if these two
        // meet, a triangle, which is seen from each of its three edges.
        private static int longPaths(Graph g) {
            int sum = 0;
            for (int v = 1; v < g.size(); v++) {
                for (int u = 0; u < v; u++) {
                    sum += g.link(u, v) * (g.degree(u) - 1) * (g.degree(v) - 1);
                }
            }
            return sum - 3 * triangles(g);
        }

        // A square is seen from both pairs of its opposite corners.
        private static int squares(Graph g) {
            int sum = 0;
            for (int v = 1; v < g.size(); v++) {
                for (int u = 0; u < v; u++) {
                    sum += pairs(Integer.bitCount(common(g, u, v)));
                }
            }
            return sum / 2;
        }

        private static int paws(Graph g) {
            int sum = 0;
            for (int v = 0; v < g.size(); v++) {
                sum += g.edgesWithin(g.row(v)) * (g.degree(v) - 2);
            }
            return sum;
        }

        private static int diamonds(Graph g) {
            int sum = 0;
            for (int v = 1; v < g.size(); v++) {
                for (int u = 0; u < v; u++) {
                    sum += g.link(u, v) * pairs(Integer.bitCount(common(g, u, v)));
                }
            }
            return sum;
        }

        private static int tetrahedra(Graph g) {
            int seen = 0;
            for (int v = 1; v < g.size(); v++) {
                for (int u = 0; u < v; u++) {
                    seen += g.link(u, v) * g.edgesWithin(common(g, u, v));
                }
            }
            return seen / 6;
        }
    }

    /** Cards with h - 1 vertices, as canonical codes in ascending order. */
    private static final class Deck {
        private final int[] codes = new int[MOST_VERTICES];
        private int h = FIRST_SIZE;
        private int size;

        void start(int newH) {
            h = newH;
            size = 0;
        }

        int h() {
            return h;
        }

        int size() {
            return size;
        }

        int lost() {
            return h - size;
        }

        boolean has(int k) {
            return k >= 0 && k < size;
        }

        int codeAt(int k) {
            return has(k) ? codes[k] : NONE;
        }

        int everyCard() {
            return (1 << size) - 1;
        }

        int put(int code) {
            int at = 0;
            while (at < size && codes[at] < code) {
                at++;
            }
            if (size < MOST_VERTICES) {
                for (int k = size; k > at; k--) {
                    codes[k] = codes[k - 1];
                }
                codes[at] = code;
                size++;
            }
            return at;
        }

        void removeAt(int at) {
            if (!has(at)) {
                return;
            }
            size--;
            for (int k = at; k < size; k++) {
                codes[k] = codes[k + 1];
            }
        }

        void fill(Graph g, Canon canon) {
            start(g.size());
            for (int v = 0; v < g.size(); v++) {
                put(canon.of(g.size() - 1, g.codeWithout(v)));
            }
        }

        int howOften(int code) {
            int times = 0;
            for (int k = 0; k < size; k++) {
                if (codes[k] == code) {
                    times++;
                }
            }
            return times;
        }

        int different() {
            int number = 0;
            for (int k = 0; k < size; k++) {
                if (k == 0 || codes[k] != codes[k - 1]) {
                    number++;
                }
            }
            return number;
        }

        boolean contains(Deck other) {
            for (int k = 0; k < other.size(); k++) {
                int code = other.codeAt(k);
                if (howOften(code) < other.howOften(code)) {
                    return false;
                }
            }
            return true;
        }

        /** The card with the given index among those that are left without the taken ones. */
        int leftAfter(Deck taken, int index) {
            int passed = 0;
            int next = 0;
            for (int k = 0; k < size; k++) {
                if (taken.has(next) && taken.codeAt(next) == codes[k]) {
                    next++;
                } else if (passed == index) {
                    return codes[k];
                } else {
                    passed++;
                }
            }
            return NONE;
        }
    }

    /** The latest states of the graph and the held deck, in a ring of rows. */
    private static final class History {
        private static final int MOST_STATES = 8;
        private static final int CARDS_FROM = 4;

        private final int[][] states = new int[MOST_STATES][CARDS_FROM + MOST_HELD];
        private int size;
        private int next;

        int size() {
            return size;
        }

        void save(Graph graph, Deck held) {
            int[] state = states[next & MOST_STATES - 1];
            state[0] = graph.size();
            state[1] = graph.code();
            state[2] = held.h();
            state[3] = held.size();
            for (int k = 0; k < MOST_HELD; k++) {
                state[CARDS_FROM + k] = held.codeAt(k);
            }
            next = next + 1 & MOST_STATES - 1;
            size = Math.min(size + 1, MOST_STATES);
        }

        void restore(Graph graph, Deck held) {
            if (size == 0) {
                return;
            }
            size--;
            next = next - 1 & MOST_STATES - 1;
            int[] state = states[next];
            graph.load(state[0], state[1]);
            held.start(state[2]);
            for (int k = 0; k < state[3] && k < MOST_HELD; k++) {
                held.put(state[CARDS_FROM + k]);
            }
        }
    }

    /** Computes numbers of the unknown graph by counting in the held cards. */
    private static final class Counting {
        private final Graph one = new Graph();
        private final int[] degrees = new int[MOST_HELD];

        int patterns(Deck held, int pattern) {
            int shares = held.h() - Patterns.vertices(pattern);
            if (held.lost() != 0 || shares <= 0) {
                return NONE;
            }
            int sum = 0;
            for (int k = 0; k < held.size(); k++) {
                one.load(held.h() - 1, held.codeAt(k));
                sum += Patterns.count(one, pattern);
            }
            return sum % shares == 0 ? sum / shares : NONE;
        }

        int edges(Deck held) {
            return patterns(held, 0);
        }

        int degree(Deck held, int k) {
            int edges = edges(held);
            return edges == NONE ? NONE : edges - Integer.bitCount(held.codeAt(k));
        }

        int firstFailed(Deck held) {
            if (held.lost() != 0) {
                return NONE;
            }
            int edges = edges(held);
            if (edges == NONE) {
                return 1;
            }
            sortDegrees(held, edges);
            if (!areInRange(held.h())) {
                return 2;
            }
            return hasGraph(held.h()) ? 0 : 3;
        }

        private void sortDegrees(Deck held, int edges) {
            for (int k = 0; k < held.size() && k < MOST_HELD; k++) {
                int degree = edges - Integer.bitCount(held.codeAt(k));
                int at = k;
                while (at > 0 && degrees[at - 1] < degree) {
                    degrees[at] = degrees[at - 1];
                    at--;
                }
                degrees[at] = degree;
            }
        }

        private boolean areInRange(int h) {
            for (int k = 0; k < h && k < MOST_HELD; k++) {
                if (degrees[k] < 0 || degrees[k] > h - 1) {
                    return false;
                }
            }
            return true;
        }

        private boolean hasGraph(int h) {
            int first = 0;
            for (int k = 1; k <= h && k <= MOST_HELD; k++) {
                first += degrees[k - 1];
                int most = k * (k - 1);
                for (int i = k; i < h && i < MOST_HELD; i++) {
                    most += Math.min(degrees[i], k);
                }
                if (first > most) {
                    return false;
                }
            }
            return true;
        }
    }

    /** Finds the answers: all graphs whose decks contain given cards. */
    private static final class Answers {
        private final Graph candidate = new Graph();
        private final Deck chosen = new Deck();
        private final Deck full = new Deck();
        private final int[] codes = new int[1 << MOST_HELD - 1];
        private int size;

        /**
         * Finds the answers to a choice of the held cards, in which bit k stands
         * for card k. Each answer is the first chosen card with one more vertex.
         */
        int find(Deck held, int choice, Canon canon) {
            size = 0;
            choose(held, choice);
            if (chosen.size() == 0) {
                return 0;
            }
            int oldVertices = chosen.h() - 1;
            for (int links = 0; links < 1 << oldVertices; links++) {
                int code = chosen.codeAt(0) << oldVertices | links;
                candidate.load(chosen.h(), code);
                full.fill(candidate, canon);
                if (full.contains(chosen)) {
                    keep(canon.of(chosen.h(), code));
                }
            }
            return size;
        }

        private void choose(Deck held, int choice) {
            chosen.start(held.h());
            for (int k = 0; k < held.size(); k++) {
                if ((choice >> k & 1) == 1) {
                    chosen.put(held.codeAt(k));
                }
            }
        }

        private void keep(int code) {
            int at = 0;
            while (at < size && codes[at] < code) {
                at++;
            }
            boolean known = at < size && codes[at] == code;
            if (known || size >= codes.length) {
                return;
            }
            for (int k = size; k > at; k--) {
                codes[k] = codes[k - 1];
            }
            codes[at] = code;
            size++;
        }

        int codeAt(int k) {
            return k >= 0 && k < size ? codes[k] : NONE;
        }

        void deckOf(int k, Deck target, Canon canon) {
            if (k >= 0 && k < size) {
                candidate.load(chosen.h(), codes[k]);
                target.fill(candidate, canon);
            }
        }
    }
}
