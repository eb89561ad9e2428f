import java.util.ArrayList;
import java.util.Arrays;
import java.util.HashMap;
import java.util.List;
import java.util.Map;
import java.util.Random;
import java.util.TreeMap;
import java.util.TreeSet;

/**
 * Compares GraphDeck, call by call, with a model that takes the document's
 * definitions by their words: all numberings, all sets of edges, all graphs.
 */
public final class ModelRuns {
    private static final int BAD = -1, STATE = -2, FULL = -3, NONE = -9;
    private static final String[] NAMES = {"begin", "edge", "become", "undo", "told", "vertex", "image", "copies",
        "hold", "keepDeck", "addCard", "dropCard", "card", "deck", "counted", "answer", "missing", "accept"};
    private static final int[] ARITIES = {1, 3, 1, 0, 1, 2, 3, 1, 1, 0, 1, 1, 2, 1, 1, 1, 1, 1};

    private static int wrong = 0;
    private static long calls = 0;

    public static void main(String[] args) {
        everySmallGraph();
        everySmallDeck();
        everyDeckOfSixVertices();
        largeGraphs();
        for (int seed = 1; seed <= 400; seed++) {
            randomRun(seed);
        }
        System.out.println(calls + " calls, " + wrong + " answers are not as due");
        if (wrong != 0) {
            System.exit(1);
        }
    }

    // ---- the runs

    private static void everySmallGraph() {
        for (int n = 1; n <= 4; n++) {
            for (int code = 0; code < 1 << n * (n - 1) / 2; code++) {
                askGraph(n, code);
            }
        }
        for (int n = 5; n <= 6; n++) {
            for (int code : Model.canonicalCodes(n)) {
                askGraph(n, code);
                askGraph(n, Model.turned(n, code));
            }
        }
    }

    private static void askGraph(int n, int code) {
        Pair pair = new Pair("graph " + n + " " + code);
        pair.call("begin", n);
        pair.call("become", code);
        pair.askGraph();
        for (int u = 0; u < n; u++) {
            // A new object for each u keeps the runs below 512 calls.
            Pair images = new Pair("images in graph " + n + " " + code);
            images.call("begin", n);
            images.call("become", code);
            images.askImages(u);
        }
    }

    private static void everySmallDeck() {
        for (int h = 3; h <= 5; h++) {
            addCards(h, h, new int[0]);
        }
        // All with six vertices are almost four millions, so only those with few cards.
        addCards(6, 2, new int[0]);
        Random random = new Random(5);
        for (int round = 0; round < 300; round++) {
            int h = 5 + round % 2;
            int[] codes = new int[1 + random.nextInt(h)];
            for (int i = 0; i < codes.length; i++) {
                codes[i] = random.nextInt(1 << (h - 1) * (h - 2) / 2);
            }
            holdAndAsk(h, codes);
        }
    }

    private static void addCards(int h, int most, int[] codes) {
        holdAndAsk(h, codes);
        if (codes.length == most) {
            return;
        }
        for (int code : Model.canonicalCodes(h - 1)) {
            if (codes.length == 0 || codes[codes.length - 1] <= code) {
                int[] more = Arrays.copyOf(codes, codes.length + 1);
                more[codes.length] = code;
                addCards(h, most, more);
            }
        }
    }

    private static void holdAndAsk(int h, int[] codes) {
        Pair pair = new Pair("deck " + h + " " + Arrays.toString(codes));
        pair.call("hold", h);
        for (int code : codes) {
            pair.call("addCard", code);
        }
        pair.askDeck();
    }

    private static void everyDeckOfSixVertices() {
        Random random = new Random(6);
        for (int n = 3; n <= 6; n++) {
            for (int code : Model.canonicalCodes(n)) {
                Pair pair = new Pair("deck of graph " + n + " " + code);
                pair.call("begin", n);
                pair.call("become", code);
                pair.call("keepDeck");
                pair.askDeck();
                pair.call("dropCard", random.nextInt(n));
                pair.askDeck();
                pair.call("dropCard", random.nextInt(n - 1));
                pair.askDeck();
                pair.call("accept", 0);
                pair.call("told", 0);
                pair.call("told", 2);
                pair.call("undo");
                pair.call("deck", 8);
            }
        }
    }

    private static void largeGraphs() {
        // Codes for whose canonical code the search goes far, and then some of
        // the graphs with pseudo-similar vertices, which no smaller graph has.
        int[] special = {0, 1, (1 << 28) - 1, 172236980, 52431488, 208736256, 38998016,
            5048770, 871628, 6257531, 15711611, 5700980};
        for (int code : special) {
            askGraph(8, code);
            askGraph(8, Model.turned(8, code));
        }
        Random random = new Random(7);
        for (int round = 0; round < 60; round++) {
            int n = 7 + round % 2;
            int code = 0;
            for (int i = 0; i < n * (n - 1) / 2; i++) {
                code = code << 1 | (random.nextInt(10) <= round % 9 ? 1 : 0);
            }
            askGraph(n, code);
        }
    }

    private static void randomRun(int seed) {
        Random random = new Random(seed);
        Pair pair = new Pair("seed " + seed);
        for (int i = 0; i < 512; i++) {
            int method = random.nextInt(NAMES.length);
            if (seed % 2 == 0 && random.nextInt(3) == 0) {
                method = 10;
            }
            if (seed % 5 == 0 && (method == 3 || method == 8) && random.nextInt(3) != 0) {
                method = 10 + random.nextInt(8);
            }
            int[] arguments = new int[ARITIES[method]];
            for (int a = 0; a < arguments.length; a++) {
                arguments[a] = argument(random, NAMES[method], a, pair.model);
            }
            pair.call(NAMES[method], arguments);
        }
    }

    private static int argument(Random random, String name, int place, Model model) {
        int dice = random.nextInt(60);
        if (dice == 0) {
            return Integer.MIN_VALUE;
        }
        if (dice == 1) {
            return Integer.MAX_VALUE;
        }
        if (dice == 2) {
            return random.nextInt();
        }
        if (dice == 3) {
            return -1 - random.nextInt(3);
        }
        if (name.equals("become")) {
            return random.nextInt((1 << model.n * (model.n - 1) / 2) + 1);
        }
        if (name.equals("addCard")) {
            return random.nextInt((1 << (model.h - 1) * (model.h - 2) / 2) + 1);
        }
        if (name.equals("begin")) {
            return random.nextInt(7) == 0 ? random.nextInt(10) : 1 + random.nextInt(7);
        }
        if (name.equals("hold")) {
            return 2 + random.nextInt(6);
        }
        if (name.equals("edge") && place == 2) {
            return random.nextInt(4) == 0 ? 0 : 1 + random.nextInt(10) / 9;
        }
        if (name.equals("edge") || name.equals("image") || name.equals("vertex") && place == 0) {
            return random.nextInt(model.n + (random.nextInt(8) == 0 ? 1 : 0));
        }
        if (name.equals("told") || name.equals("deck") || name.equals("copies") || name.equals("counted")) {
            return random.nextInt(11);
        }
        if (name.equals("answer") || name.equals("missing") || name.equals("accept")) {
            return random.nextInt(3);
        }
        return random.nextInt(7);
    }

    /** A GraphDeck and a model that get the same calls. */
    private static final class Pair {
        private final String name;
        private final Model model = new Model();
        private final List<String> log = new ArrayList<>();
        private final GraphDeck real = new GraphDeck();

        Pair(String name) {
            this.name = name;
        }

        void call(String method, int... a) {
            calls++;
            if (log.size() >= 512) {
                throw new IllegalStateException("the test makes too many calls: " + name);
            }
            int want = model.call(method, a);
            int got = callReal(method, a);
            log.add(method + Arrays.toString(a));
            if (got != want) {
                wrong++;
                if (wrong <= 20) {
                    System.out.println(name + ": call " + log.size() + " " + method + Arrays.toString(a)
                        + " answered " + got + ", due is " + want);
                    System.out.println("    after " + log.subList(Math.max(0, log.size() - 12), log.size() - 1));
                }
            }
        }

        private int callReal(String method, int[] a) {
            switch (method) {
                case "begin": return real.begin(a[0]);
                case "edge": return real.edge(a[0], a[1], a[2]);
                case "become": return real.become(a[0]);
                case "undo": return real.undo();
                case "told": return real.told(a[0]);
                case "vertex": return real.vertex(a[0], a[1]);
                case "image": return real.image(a[0], a[1], a[2]);
                case "copies": return real.copies(a[0]);
                case "hold": return real.hold(a[0]);
                case "keepDeck": return real.keepDeck();
                case "addCard": return real.addCard(a[0]);
                case "dropCard": return real.dropCard(a[0]);
                case "card": return real.card(a[0], a[1]);
                case "deck": return real.deck(a[0]);
                case "counted": return real.counted(a[0]);
                case "answer": return real.answer(a[0]);
                case "missing": return real.missing(a[0]);
                default: return real.accept(a[0]);
            }
        }

        void askGraph() {
            for (int what = -1; what <= 10; what++) {
                call("told", what);
            }
            for (int v = -1; v <= model.n; v++) {
                for (int what = -1; what <= 6; what++) {
                    call("vertex", v, what);
                }
            }
            for (int pattern = -1; pattern <= 9; pattern++) {
                call("copies", pattern);
            }
            call("keepDeck");
            call("deck", 8);
        }

        void askImages(int u) {
            for (int v = -1; v <= model.n; v++) {
                for (int x = -1; x <= model.n; x++) {
                    call("image", u, v, x);
                }
            }
        }

        void askDeck() {
            for (int what = -1; what <= 9; what++) {
                call("deck", what);
            }
            for (int k = -1; k <= model.held.size(); k++) {
                for (int what = -1; what <= 5; what++) {
                    call("card", k, what);
                }
            }
            for (int pattern = -1; pattern <= 9; pattern++) {
                call("counted", pattern);
            }
            for (int k = -1; k <= 33; k++) {
                call("answer", k);
            }
            for (int k = -1; k <= model.h; k++) {
                call("missing", k);
            }
            call("accept", 33);
        }
    }

    // ---- the model

    private static final class Model {
        private static final Map<Integer, List<int[]>> PERMUTATIONS = new HashMap<>();
        private static final Map<Long, Integer> CANONICAL = new HashMap<>();
        private static final Map<Integer, List<Integer>> ALL = new HashMap<>();
        private static final Map<Long, List<Integer>> DECKS = new HashMap<>();
        private static final int[] PATTERN_SIZES = {2, 3, 3, 4, 4, 4, 4, 4, 4};
        private static final int[][] PATTERN_EDGES = {
            {0, 1},
            {0, 1, 1, 2},
            {0, 1, 1, 2, 0, 2},
            {0, 1, 0, 2, 0, 3},
            {0, 1, 1, 2, 2, 3},
            {0, 1, 1, 2, 2, 3, 3, 0},
            {0, 1, 1, 2, 0, 2, 2, 3},
            {0, 1, 1, 2, 0, 2, 1, 3, 2, 3},
            {0, 1, 0, 2, 0, 3, 1, 2, 1, 3, 2, 3}};

        int n = 4;
        int code = 0;
        int h = 4;
        List<Integer> held = new ArrayList<>();
        private final List<Object[]> history = new ArrayList<>();
        private int autosFor = -1;
        private List<int[]> autos;

        static List<int[]> permutations(int n) {
            List<int[]> known = PERMUTATIONS.get(n);
            if (known == null) {
                known = new ArrayList<>();
                permute(new int[n], 0, known);
                PERMUTATIONS.put(n, known);
            }
            return known;
        }

        private static void permute(int[] p, int at, List<int[]> all) {
            if (at == p.length) {
                all.add(p.clone());
                return;
            }
            for (int v = 0; v < p.length; v++) {
                boolean used = false;
                for (int i = 0; i < at; i++) {
                    used |= p[i] == v;
                }
                if (!used) {
                    p[at] = v;
                    permute(p, at + 1, all);
                }
            }
        }

        static boolean[][] matrix(int n, int code) {
            boolean[][] m = new boolean[n][n];
            int digit = n * (n - 1) / 2;
            for (int v = 0; v < n; v++) {
                for (int u = 0; u < v; u++) {
                    digit--;
                    m[u][v] = (code >> digit & 1) == 1;
                    m[v][u] = m[u][v];
                }
            }
            return m;
        }

        static int codeOf(boolean[][] m) {
            int code = 0;
            for (int v = 0; v < m.length; v++) {
                for (int u = 0; u < v; u++) {
                    code = code * 2 + (m[u][v] ? 1 : 0);
                }
            }
            return code;
        }

        static int renumbered(boolean[][] m, int[] p) {
            // The digits are looked up backwards: numbers i < j of the new graph are p's places.
            int code = 0;
            for (int j = 0; j < p.length; j++) {
                for (int i = 0; i < j; i++) {
                    code = code * 2 + (m[p[i]][p[j]] ? 1 : 0);
                }
            }
            return code;
        }

        /** An isomorphic graph whose vertices stand in another order. */
        static int turned(int n, int code) {
            int[] p = new int[n];
            for (int i = 0; i < n; i++) {
                p[i] = i % 2 == 0 ? i / 2 : n - 1 - i / 2;
            }
            return renumbered(matrix(n, code), p);
        }

        static int canonical(int n, int code) {
            long name = (long) n << 32 | code;
            Integer known = CANONICAL.get(name);
            if (known != null) {
                return known;
            }
            boolean[][] m = matrix(n, code);
            int least = Integer.MAX_VALUE;
            TreeSet<Integer> same = new TreeSet<>();
            for (int[] p : permutations(n)) {
                int other = renumbered(m, p);
                least = Math.min(least, other);
                if (n <= 6) {
                    same.add(other);
                }
            }
            same.add(code);
            for (int other : same) {
                CANONICAL.put((long) n << 32 | other, least);
            }
            return least;
        }

        static List<Integer> canonicalCodes(int n) {
            List<Integer> known = ALL.get(n);
            if (known == null) {
                TreeSet<Integer> all = new TreeSet<>();
                for (int code = 0; code < 1 << n * (n - 1) / 2; code++) {
                    all.add(canonical(n, code));
                }
                known = new ArrayList<>(all);
                ALL.put(n, known);
            }
            return known;
        }

        static int cardOf(int n, int code, int x) {
            boolean[][] m = matrix(n, code);
            boolean[][] c = new boolean[n - 1][n - 1];
            for (int u = 0; u < n; u++) {
                for (int v = 0; v < n; v++) {
                    if (u != x && v != x) {
                        c[u > x ? u - 1 : u][v > x ? v - 1 : v] = m[u][v];
                    }
                }
            }
            return canonical(n - 1, codeOf(c));
        }

        static List<Integer> deckOf(int n, int code) {
            long name = (long) n << 32 | code;
            List<Integer> known = DECKS.get(name);
            if (known == null) {
                known = new ArrayList<>();
                for (int v = 0; v < n; v++) {
                    known.add(cardOf(n, code, v));
                }
                known.sort(null);
                DECKS.put(name, known);
            }
            return known;
        }

        private List<int[]> automorphisms() {
            if (autosFor != (n << 28 | code)) {
                autosFor = n << 28 | code;
                autos = new ArrayList<>();
                boolean[][] m = matrix(n, code);
                for (int[] p : permutations(n)) {
                    if (renumbered(m, p) == code) {
                        autos.add(p);
                    }
                }
            }
            return autos;
        }

        private boolean similar(int u, int v) {
            for (int[] p : automorphisms()) {
                if (u != v && p[u] == v) {
                    return true;
                }
            }
            return false;
        }

        private boolean pseudoSimilar(int u, int v) {
            return u != v && !similar(u, v) && cardOf(n, code, u) == cardOf(n, code, v);
        }

        static int copiesIn(int n, int code, int pattern) {
            int k = PATTERN_SIZES[pattern];
            boolean[][] drawn = new boolean[k][k];
            int[] edges = PATTERN_EDGES[pattern];
            for (int i = 0; i < edges.length; i += 2) {
                drawn[edges[i]][edges[i + 1]] = true;
                drawn[edges[i + 1]][edges[i]] = true;
            }
            int wanted = canonical(k, codeOf(drawn));
            boolean[][] m = matrix(n, code);
            int number = 0;
            for (int set = 0; set < 1 << n; set++) {
                if (Integer.bitCount(set) == k) {
                    int inside = codeOf(within(m, set, k));
                    for (int part = 0; part < 1 << k * (k - 1) / 2; part++) {
                        if ((part & ~inside) == 0 && canonical(k, part) == wanted) {
                            number++;
                        }
                    }
                }
            }
            return number;
        }

        private static boolean[][] within(boolean[][] m, int set, int k) {
            int[] members = new int[k];
            int at = 0;
            for (int v = 0; v < m.length; v++) {
                if ((set >> v & 1) == 1) {
                    members[at++] = v;
                }
            }
            boolean[][] inside = new boolean[k][k];
            for (int i = 0; i < k; i++) {
                for (int j = 0; j < k; j++) {
                    inside[i][j] = m[members[i]][members[j]];
                }
            }
            return inside;
        }

        private static boolean contains(List<Integer> all, List<Integer> some) {
            List<Integer> rest = new ArrayList<>(all);
            for (Integer code : some) {
                if (!rest.remove(code)) {
                    return false;
                }
            }
            return true;
        }

        private List<Integer> answersFor(List<Integer> cards) {
            List<Integer> found = new ArrayList<>();
            for (int code : canonicalCodes(h)) {
                if (contains(deckOf(h, code), cards)) {
                    found.add(code);
                }
            }
            return found;
        }

        private int enough() {
            if (h == 6 || answersFor(held).size() != 1) {
                return NONE;
            }
            int least = held.size();
            for (int choice = 0; choice < 1 << held.size(); choice++) {
                List<Integer> some = new ArrayList<>();
                for (int k = 0; k < held.size(); k++) {
                    if ((choice >> k & 1) == 1) {
                        some.add(held.get(k));
                    }
                }
                if (answersFor(some).size() == 1) {
                    least = Math.min(least, some.size());
                }
            }
            return least;
        }

        private int count(int pattern) {
            if (held.size() < h || PATTERN_SIZES[pattern] >= h) {
                return NONE;
            }
            int sum = 0;
            for (int card : held) {
                sum += copiesIn(h - 1, card, pattern);
            }
            int k = PATTERN_SIZES[pattern];
            return sum % (h - k) == 0 ? sum / (h - k) : NONE;
        }

        private int firstFailed() {
            if (held.size() < h) {
                return NONE;
            }
            int m = count(0);
            if (m == NONE) {
                return 1;
            }
            int[] wanted = new int[h];
            for (int k = 0; k < h; k++) {
                wanted[k] = m - Integer.bitCount(held.get(k));
                if (wanted[k] < 0 || wanted[k] > h - 1) {
                    return 2;
                }
            }
            Arrays.sort(wanted);
            for (int code : canonicalCodes(h)) {
                int[] degrees = new int[h];
                boolean[][] matrix = matrix(h, code);
                for (int u = 0; u < h; u++) {
                    for (int v = 0; v < h; v++) {
                        degrees[u] += matrix[u][v] ? 1 : 0;
                    }
                }
                Arrays.sort(degrees);
                if (Arrays.equals(degrees, wanted)) {
                    return 0;
                }
            }
            return 3;
        }

        private void record() {
            history.add(new Object[] {n, code, h, new ArrayList<>(held)});
            if (history.size() > 8) {
                history.remove(0);
            }
        }

        private boolean bad(int v) {
            return v < 0 || v >= n;
        }

        int call(String method, int[] a) {
            switch (method) {
                case "begin": return begin(a[0]);
                case "edge": return edge(a[0], a[1], a[2]);
                case "become": return become(a[0]);
                case "undo": return undo();
                case "told": return told(a[0]);
                case "vertex": return vertex(a[0], a[1]);
                case "image": return image(a[0], a[1], a[2]);
                case "copies": return a[0] < 0 || a[0] > 8 ? BAD : copiesIn(n, code, a[0]);
                case "hold": return hold(a[0]);
                case "keepDeck": return keepDeck();
                case "addCard": return addCard(a[0]);
                case "dropCard": return dropCard(a[0]);
                case "card": return card(a[0], a[1]);
                case "deck": return deck(a[0]);
                case "counted": return a[0] < 0 || a[0] > 8 ? BAD : count(a[0]);
                case "answer": return answer(a[0]);
                case "missing": return missing(a[0]);
                default: return accept(a[0]);
            }
        }

        private int begin(int newN) {
            if (newN < 1 || newN > 8) {
                return BAD;
            }
            record();
            int before = n;
            n = newN;
            code = 0;
            return before;
        }

        private int edge(int u, int v, int on) {
            if (bad(u) || bad(v) || u == v || on != 0 && on != 1) {
                return BAD;
            }
            record();
            boolean[][] m = matrix(n, code);
            int before = m[u][v] ? 1 : 0;
            m[u][v] = on == 1;
            m[v][u] = on == 1;
            code = codeOf(m);
            return before;
        }

        private int become(int newCode) {
            if (newCode < 0 || newCode >= Math.pow(2, n * (n - 1) / 2)) {
                return BAD;
            }
            record();
            int before = code;
            code = newCode;
            return before;
        }

        @SuppressWarnings("unchecked")
        private int undo() {
            if (history.isEmpty()) {
                return STATE;
            }
            Object[] state = history.remove(history.size() - 1);
            n = (Integer) state[0];
            code = (Integer) state[1];
            h = (Integer) state[2];
            held = (List<Integer>) state[3];
            return history.size();
        }

        private int told(int what) {
            switch (what) {
                case 0: return n;
                case 1: return Integer.bitCount(code);
                case 2: return code;
                case 3: return canonical(n, code);
                case 4: return automorphisms().size();
                case 5: return classes();
                case 6: return n == 1 ? 0 : new TreeSet<>(deckOf(n, code)).size();
                case 7: return components();
                case 8: return pseudoSimilarPairs();
                case 9: return history.size();
                default: return BAD;
            }
        }

        private int classes() {
            TreeSet<Integer> sets = new TreeSet<>();
            for (int v = 0; v < n; v++) {
                sets.add(similarSet(v) | 1 << v);
            }
            return sets.size();
        }

        private int components() {
            int[] label = new int[n];
            for (int v = 0; v < n; v++) {
                label[v] = v;
            }
            boolean[][] m = matrix(n, code);
            for (int round = 0; round < n; round++) {
                for (int u = 0; u < n; u++) {
                    for (int v = 0; v < n; v++) {
                        if (m[u][v]) {
                            label[u] = Math.min(label[u], label[v]);
                        }
                    }
                }
            }
            return (int) Arrays.stream(label).distinct().count();
        }

        private int pseudoSimilarPairs() {
            int pairs = 0;
            for (int v = 0; n > 1 && v < n; v++) {
                for (int u = 0; u < v; u++) {
                    pairs += pseudoSimilar(u, v) ? 1 : 0;
                }
            }
            return pairs;
        }

        private int similarSet(int v) {
            int set = 0;
            for (int u = 0; u < n; u++) {
                set |= similar(v, u) ? 1 << u : 0;
            }
            return set;
        }

        private int vertex(int v, int what) {
            if (bad(v) || what < 0 || what > 5) {
                return BAD;
            }
            if (what > 1 && n == 1) {
                return NONE;
            }
            int neighbours = 0;
            int pseudo = 0;
            for (int u = 0; u < n; u++) {
                neighbours |= matrix(n, code)[u][v] ? 1 << u : 0;
                pseudo |= what == 5 && pseudoSimilar(u, v) ? 1 << u : 0;
            }
            switch (what) {
                case 0: return Integer.bitCount(neighbours);
                case 1: return neighbours;
                case 2: return cardOf(n, code, v);
                case 3: return Integer.bitCount(cardOf(n, code, v));
                case 4: return similarSet(v);
                default: return pseudo;
            }
        }

        private int image(int u, int v, int x) {
            if (bad(u) || bad(v) || bad(x)) {
                return BAD;
            }
            // The permutations, and so the automorphisms, are in lexicographic order.
            for (int[] p : automorphisms()) {
                if (p[u] == v) {
                    return p[x];
                }
            }
            return NONE;
        }

        private int hold(int newH) {
            if (newH < 3 || newH > 6) {
                return BAD;
            }
            record();
            int before = held.size();
            h = newH;
            held = new ArrayList<>();
            return before;
        }

        private int keepDeck() {
            if (n < 3 || n > 6) {
                return STATE;
            }
            record();
            h = n;
            held = new ArrayList<>(deckOf(n, code));
            return n;
        }

        private int addCard(int newCode) {
            if (newCode < 0 || newCode >= Math.pow(2, (h - 1) * (h - 2) / 2)) {
                return BAD;
            }
            if (held.size() == h) {
                return FULL;
            }
            record();
            int card = canonical(h - 1, newCode);
            held.add(card);
            held.sort(null);
            return held.indexOf(card);
        }

        private int dropCard(int k) {
            if (k < 0 || k >= held.size()) {
                return BAD;
            }
            record();
            held.remove(k);
            return held.size();
        }

        private int card(int k, int what) {
            if (k < 0 || k >= held.size() || what < 0 || what > 4) {
                return BAD;
            }
            int card = held.get(k);
            if (what == 0) {
                return card;
            }
            if (what == 1) {
                return Integer.bitCount(card);
            }
            if (what == 2) {
                return java.util.Collections.frequency(held, card);
            }
            if (what == 3) {
                return count(0) == NONE ? NONE : count(0) - Integer.bitCount(card);
            }
            List<Integer> others = new ArrayList<>(held);
            others.remove(k);
            return others.isEmpty() ? NONE : answersFor(others).size();
        }

        private int deck(int what) {
            if ((what == 6 || what == 7) && held.isEmpty()) {
                return STATE;
            }
            switch (what) {
                case 0: return h;
                case 1: return held.size();
                case 2: return new TreeSet<>(held).size();
                case 3: return h - held.size();
                case 4: return count(0);
                case 5: return firstFailed();
                case 6: return answersFor(held).size();
                case 7: return enough();
                case 8: return n == h && deckOf(n, code).equals(held) ? 1 : 0;
                default: return BAD;
            }
        }

        private int answer(int k) {
            if (k < 0) {
                return BAD;
            }
            if (held.isEmpty()) {
                return STATE;
            }
            List<Integer> found = answersFor(held);
            return k < found.size() ? found.get(k) : NONE;
        }

        private int missing(int k) {
            if (k < 0) {
                return BAD;
            }
            if (held.isEmpty()) {
                return STATE;
            }
            List<Integer> found = answersFor(held);
            if (found.size() != 1) {
                return NONE;
            }
            TreeMap<Integer, Integer> left = new TreeMap<>();
            for (int card : deckOf(h, found.get(0))) {
                left.merge(card, 1, Integer::sum);
            }
            for (int card : held) {
                left.merge(card, -1, Integer::sum);
            }
            List<Integer> list = new ArrayList<>();
            for (Map.Entry<Integer, Integer> entry : left.entrySet()) {
                for (int i = 0; i < entry.getValue(); i++) {
                    list.add(entry.getKey());
                }
            }
            return k < list.size() ? list.get(k) : NONE;
        }

        private int accept(int k) {
            if (k < 0 || held.isEmpty() || k >= answersFor(held).size()) {
                return BAD;
            }
            record();
            code = answersFor(held).get(k);
            n = h;
            return Integer.bitCount(code);
        }
    }
}
