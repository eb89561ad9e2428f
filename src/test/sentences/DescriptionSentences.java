import java.util.ArrayList;
import java.util.List;
import java.util.regex.MatchResult;
import java.util.regex.Pattern;

/** The sentences of the section "Description", and the limit of 512 calls. */
final class DescriptionSentences {
    private static final String HERE = "Description";
    // A triangle 1 2 5, one more vertex at 1, and two in a row at 2: only the identity maps it to itself.
    private static final int[] ASYMMETRIC = {0, 1, 1, 2, 2, 3, 3, 4, 5, 1, 5, 2};

    private DescriptionSentences() {
    }

    static void test() {
        lengthOfLife();
        errorCodes();
        firstErrorCode();
        errorsChangeNothing();
        none();
        pairsAndCodes();
        numberings();
        theGraph();
        cards();
        similarVertices();
        patterns();
        heldDeck();
        answers();
        counting();
        deckTests();
        changes();
        history();
        examples();
        constants();
        tellsOnly();
    }

    private static void says(String sentence) {
        Sentences.says(HERE, sentence);
    }

    private static void run(String calls) {
        Sentences.run(calls);
    }

    private static void lengthOfLife() {
        Sentences.says("What it is", "An object is used for at most 512 calls after it has been made;");
        StringBuilder calls = new StringBuilder();
        for (int i = 0; i < 510; i++) {
            calls.append("become(").append((i + 1) % 64).append(") = ").append(i % 64).append("; ");
        }
        run(calls + "undo() = 7; told(2) = " + 509 % 64);
        calls.setLength(0);
        for (int i = 0; i < 255; i++) {
            calls.append(i % 2 == 0 ? "addCard(5) = 0; deck(6) = 6; " : "dropCard(0) = 0; deck(6) = STATE; ");
        }
        run(calls + "undo() = 7; deck(6) = STATE");
    }

    // ---- CONVENTIONS

    private static void errorCodes() {
        says("The error codes are BAD (-1), an argument is out of its range or names something that does not exist;");
        run("begin(9) = -1; edge(0, 4, 1) = -1; become(64) = -1; told(10) = -1; vertex(4, 0) = -1; image(0, 0, 4) = -1; "
            + "copies(9) = -1; hold(7) = -1; addCard(8) = -1; dropCard(0) = -1; card(0, 0) = -1; deck(9) = -1; "
            + "counted(9) = -1; answer(-1) = -1; missing(-1) = -1; accept(0) = -1");
        says("STATE (-2), the call is not possible now, as the method says;");
        run("undo() = -2; deck(6) = -2; deck(7) = -2; answer(0) = -2; missing(0) = -2; begin(2) = 4; keepDeck() = -2");
        // The same calls are possible at another time.
        run("addCard(0) = 0; undo() = 0; addCard(0) = 0; deck(6) = 4; deck(7) = NONE; answer(0) = 0; missing(0) = NONE; "
            + "begin(3) = 4; keepDeck() = 3");
        says("FULL (-3), a maximum would be exceeded.");
        run("addCard(0) = 0; addCard(0) = 0; addCard(0) = 0; addCard(0) = 0; addCard(0) = -3");
        // A full history is no error: its oldest state is dropped.
        run("begin(1); begin(2); begin(3); begin(4); begin(5); begin(6); begin(7); begin(8) = 7; begin(1) = 8; hold(3) = 0");
    }

    private static void firstErrorCode() {
        says("If several of them apply to one call, the first one in this list is returned.");
        run("answer(-1) = BAD; answer(MIN) = BAD; missing(-1) = BAD; missing(MIN) = BAD; accept(-1) = BAD; deck(9) = BAD");
        run(Sentences.cards(4, 0, 0, 0, 0) + "addCard(-1) = BAD; addCard(8) = BAD; addCard(MIN) = BAD; addCard(MAX) = BAD; "
            + "addCard(7) = FULL");
        run(Sentences.cards(6, 0, 0, 0, 0, 0, 0) + "addCard(1024) = BAD; addCard(1023) = FULL");
    }

    private static void errorsChangeNothing() {
        says("A call that returns one of them changes nothing.");
        String begun = "told(0)";
        for (String call : new String[] {"begin(0)", "begin(9)", "edge(0, 0, 1)", "edge(4, 0, 1)", "edge(0, 4, 1)",
            "edge(0, 1, 2)", "edge(0, 1, -1)", "become(-1)", "become(64)", "told(10)", "vertex(4, 0)", "vertex(0, 6)",
            "image(0, 0, 4)", "copies(9)", "hold(2)", "hold(7)", "addCard(-1)", "addCard(8)", "dropCard(0)", "card(0, 0)",
            "deck(9)", "counted(9)", "answer(-1)", "missing(-1)", "accept(0)", "accept(-1)"}) {
            Sentences.unchanged(begun, call, "BAD");
        }
        for (String call : new String[] {"undo()", "deck(6)", "deck(7)", "answer(0)", "missing(0)"}) {
            Sentences.unchanged(begun, call, "STATE");
        }
        // Seven changes, a full deck, and a graph that is too large to keep its deck.
        String full = Sentences.graph(7, 0, 1, 2, 3) + Sentences.cards(3, 0, 1, 1);
        for (String call : new String[] {"begin(9)", "edge(6, 7, 1)", "become(2097152)", "hold(7)", "addCard(2)",
            "dropCard(3)", "dropCard(-1)", "card(0, 5)", "card(3, 4)", "answer(-1)", "missing(-1)", "accept(1)"}) {
            Sentences.unchanged(full, call, "BAD");
        }
        Sentences.unchanged(full, "keepDeck()", "STATE");
        Sentences.unchanged(full, "addCard(0)", "FULL");
        // A full history, in which an error must not drop the oldest state.
        String many = "become(1); become(2); become(3); become(4); keepDeck(); dropCard(1); become(5); become(6); become(7); ";
        for (String call : new String[] {"begin(0)", "edge(1, 1, 0)", "become(64)", "hold(2)", "addCard(9)", "dropCard(3)",
            "accept(99)"}) {
            Sentences.unchanged(many, call, "BAD");
        }
        // An empty history, but not a new object.
        String undone = "begin(5); hold(5); addCard(1); " + "become(7); ".repeat(8) + "undo(); ".repeat(8);
        Sentences.unchanged(undone, "undo()", "STATE");
        Sentences.unchanged("begin(8); " + many, "keepDeck()", "STATE");
        Sentences.unchanged(many + "addCard(2); ", "addCard(2)", "FULL");
    }

    private static void none() {
        says("NONE (-9) means that there is no such value;");
        run("begin(1); vertex(0, 2) = -9; vertex(0, 5) = -9");
        run("edge(0, 1, 1); image(0, 2, 0) = -9; deck(4) = -9; deck(5) = -9; counted(0) = -9; addCard(0); card(0, 3) = -9; "
            + "card(0, 4) = -9; deck(7) = -9; answer(4) = -9; missing(0) = -9");
        says("it is returned only if no error code applies.");
        run("begin(1); vertex(1, 2) = BAD; vertex(-1, 5) = BAD; vertex(0, 6) = BAD; vertex(0, -1) = BAD");
        run("edge(0, 1, 1); image(0, 2, 4) = BAD; image(0, 2, -1) = BAD; counted(9) = BAD; counted(-1) = BAD; "
            + "addCard(0); card(1, 3) = BAD; card(1, 4) = BAD; card(-1, 4) = BAD; card(0, 5) = BAD; answer(-1) = BAD; "
            + "missing(-1) = BAD");
        run("hold(6); deck(7) = STATE; missing(0) = STATE; missing(-1) = BAD; answer(99) = STATE; deck(6) = STATE");
    }

    // ---- GRAPHS

    private static void pairsAndCodes() {
        says("All graphs are undirected, without loops and multiple edges.");
        run("edge(0, 3, 1) = 0; edge(3, 0, 1) = 1; told(1) = 1; vertex(0, 1) = 8; vertex(3, 1) = 1; edge(3, 0, 0) = 1; "
            + "told(1) = 0; vertex(0, 1) = 0; vertex(3, 1) = 0; edge(0, 0, 1) = BAD; edge(3, 3, 1) = BAD; told(1) = 0");
        says("A graph with N vertices has the vertices 0 to N - 1.");
        for (int n = 1; n <= 8; n++) {
            run("begin(" + n + "); vertex(-1, 0) = BAD; vertex(0, 0) = 0; vertex(" + (n - 1) + ", 0) = 0; vertex(" + n
                + ", 0) = BAD");
        }
        says("The pairs of vertices u < v are ordered by v, and those with the same v by u: "
            + "(0,1), (0,2), (1,2), (0,3), (1,3), (2,3), and so on.");
        for (int n = 2; n <= 8; n++) {
            int digit = 1 << n * (n - 1) / 2;
            for (int v = 1; v < n; v++) {
                for (int u = 0; u < v; u++) {
                    digit /= 2;
                    run(Sentences.graph(n, u, v) + "told(2) = " + digit);
                }
            }
        }
        says("The code of a graph with N vertices is the number whose binary digits, N * (N - 1) / 2 of them from the "
            + "highest one on, tell for each pair in this order whether it is an edge (1) or not (0).");
        for (int n = 2; n <= 8; n++) {
            int highest = 1 << n * (n - 1) / 2 - 1;
            run("begin(" + n + "); become(" + highest + ") = 0; vertex(0, 1) = 2; vertex(1, 1) = 1; told(1) = 1; become(1) = "
                + highest + "; vertex(" + (n - 2) + ", 1) = " + (1 << n - 1) + "; told(1) = 1; become(" + (2 * highest - 1)
                + ") = 1; told(1) = " + n * (n - 1) / 2 + "; told(2) = " + (2 * highest - 1));
        }
        says("The code of a graph with one vertex is 0.");
        run("begin(1); told(2) = 0; told(3) = 0; become(0) = 0; told(2) = 0; become(1) = BAD");
        run("begin(2); vertex(0, 2) = 0; vertex(1, 2) = 0; edge(0, 1, 1); vertex(0, 2) = 0; vertex(1, 2) = 0");
    }

    private static void numberings() {
        int least = Integer.MAX_VALUE;
        for (int[] p : numberings(6)) {
            least = Math.min(least, code(6, p));
        }
        says("A numbering of a graph is a permutation of its vertices: vertex v of the graph becomes vertex p(v) of another "
            + "graph, in which p(u) and p(v) are adjacent exactly if u and v are.");
        for (int[] p : numberings(6)) {
            run("begin(6); become(" + code(6, p) + "); told(3) = " + least);
        }
        says("Two graphs are isomorphic if a numbering of the one gives the other, and this numbering is an isomorphism then.");
        // The path 2 0 3 1 and the path 0 1 2 3; a path and a star, which have as many edges; two
        // triangles and a cycle of 6, which have the same degrees.
        run(Sentences.graph(4, 2, 0, 0, 3, 3, 1) + "told(3) = 13");
        run(Sentences.graph(4, 0, 1, 1, 2, 2, 3) + "told(3) = 13");
        run(Sentences.graph(4, 0, 1, 0, 2, 0, 3) + "told(3) = 7");
        run(Sentences.graph(6, 0, 1, 1, 2, 2, 0, 3, 4, 4, 5, 5, 3) + "told(3) = 5905");
        run(Sentences.graph(6, 0, 1, 1, 2, 2, 3, 3, 4, 4, 5, 5, 0) + "told(3) = 1880");
        says("The canonical code of a graph is the smallest code of all graphs that are isomorphic to it.");
        int[] canonical = {0, 1, 3, 7, 11, 12, 13, 15, 30, 31, 63};
        for (int code : canonical) {
            run("become(" + code + "); told(3) = " + code);
        }
        for (int n = 2; n <= 8; n++) {
            int all = (1 << n * (n - 1) / 2) - 1;
            run("begin(" + n + "); told(3) = 0; become(" + all + "); told(3) = " + all + "; become(" + (all + 1) / 2
                + "); told(3) = 1");
        }
        // All edges but one: the pair that is left out comes first.
        run("begin(8); become(268435454); told(3) = 134217727");
        says("An automorphism is an isomorphism of a graph to itself.");
        run("begin(1); told(4) = 1; begin(2); told(4) = 2; begin(8); told(4) = 40320; become(268435455); told(4) = 40320");
        run(Sentences.graph(6, ASYMMETRIC) + "told(4) = 1; image(5, 5, 0) = 0; image(0, 4, 0) = NONE");
    }

    private static List<int[]> numberings(int n) {
        List<int[]> all = new ArrayList<>();
        permute(new int[n], 0, 0, all);
        return all;
    }

    private static void permute(int[] p, int at, int used, List<int[]> all) {
        if (at == p.length) {
            all.add(p.clone());
            return;
        }
        for (int v = 0; v < p.length; v++) {
            if ((used >> v & 1) == 0) {
                p[at] = v;
                permute(p, at + 1, used | 1 << v, all);
            }
        }
    }

    /** The code of the asymmetric graph in another numbering. */
    private static int code(int n, int[] p) {
        int code = 0;
        for (int i = 0; i < ASYMMETRIC.length; i += 2) {
            int u = Math.min(p[ASYMMETRIC[i]], p[ASYMMETRIC[i + 1]]);
            int v = Math.max(p[ASYMMETRIC[i]], p[ASYMMETRIC[i + 1]]);
            code |= 1 << n * (n - 1) / 2 - 1 - v * (v - 1) / 2 - u;
        }
        return code;
    }

    private static void theGraph() {
        says("The workshop has one graph, which is called the graph, with N from 1 to 8 vertices.");
        run("begin(1) = 4; told(0) = 1; begin(8) = 1; told(0) = 8; begin(0) = BAD; begin(9) = BAD; told(0) = 8");
        run("hold(6); addCard(0); accept(0) = 0; told(0) = 6; hold(3); addCard(0); accept(0) = 0; told(0) = 3");
        says("It has 4 vertices and no edges at first.");
        run("told(0) = 4; told(1) = 0; vertex(3, 0) = 0; vertex(4, 0) = BAD; told(7) = 4");
    }

    // ---- CARDS

    private static void cards() {
        says("The card of a vertex v of a graph with at least 2 vertices is the graph without v and its edges,");
        run("begin(1); vertex(0, 2) = NONE; told(6) = 0");
        run(Sentences.graph(2, 0, 1) + "vertex(0, 2) = 0; vertex(1, 2) = 0; vertex(0, 3) = 0; told(6) = 1");
        // A star: without its center no edge is left, without a leaf a smaller star.
        run(Sentences.graph(8, 3, 0, 3, 1, 3, 2, 3, 4, 3, 5, 3, 6, 3, 7)
            + "vertex(3, 2) = 0; vertex(3, 3) = 0; vertex(0, 2) = 63; vertex(0, 3) = 6; vertex(7, 2) = 63");
        says("where the vertices above v get the next lower numbers.");
        // A path 0 1 2 3 4: without its first, a middle, or its last vertex.
        run(Sentences.graph(5, 0, 1, 1, 2, 2, 3, 3, 4) + Sentences.list("vertex(%, 2)", 13, 3, 12, 3, 13));
        run(Sentences.graph(3, 1, 2) + Sentences.list("vertex(%, 2)", 1, 0, 0));
        run(Sentences.graph(3, 0, 1) + Sentences.list("vertex(%, 2)", 0, 0, 1));
        says("Cards are told by their canonical codes.");
        // Without vertex 3 the edges 0 1 and 0 2 are left, whose code is 6.
        run(Sentences.graph(4, 0, 1, 0, 2) + "vertex(3, 2) = 3; keepDeck() = 4; card(3, 0) = 3");
        run("addCard(6) = 0; card(0, 0) = 3; addCard(4) = 0; card(0, 0) = 1; card(1, 0) = 3");
        says("The deck of a graph are the cards of all its vertices, in ascending order of their canonical codes;");
        // A paw whose cards have, in the order of the vertices, the codes 7 1 3 3.
        run(Sentences.graph(4, 0, 1, 1, 2, 2, 3, 3, 1) + Sentences.list("vertex(%, 2)", 7, 1, 3, 3) + "keepDeck() = 4; "
            + Sentences.list("card(%, 0)", 1, 3, 3, 7) + "card(4, 0) = BAD");
        says("cards with the same code occur as often as there are vertices with this card.");
        run("keepDeck() = 4; card(0, 2) = 4; card(3, 2) = 4; deck(1) = 4; deck(2) = 1");
        run(Sentences.graph(6, ASYMMETRIC) + "keepDeck() = 6; deck(2) = 6; card(0, 2) = 1; card(5, 2) = 1");
    }

    private static void similarVertices() {
        says("Two different vertices u and v are similar if an automorphism of the graph maps u to v.");
        run("vertex(0, 4) = 14; vertex(3, 4) = 7; told(5) = 1");
        run("begin(8); vertex(7, 4) = 127; vertex(0, 4) = 254");
        run(Sentences.graph(6, ASYMMETRIC) + Sentences.list("vertex(%, 4)", 0, 0, 0, 0, 0, 0));
        says("They are pseudo-similar if their cards have the same canonical code, but they are not similar.");
        // All vertices have the same card here, but all are similar.
        run("vertex(0, 5) = 0; vertex(3, 5) = 0; told(8) = 0");
        // Triangles 0 1 2 and 3 4 5, the edge 2 3, and the tail 5 6 7: without 2, and without 5, an edge
        // and a triangle with a tail of two are left; 0 and 1 are similar.
        run(Sentences.graph(8, 0, 1, 1, 2, 0, 2, 2, 3, 3, 4, 3, 5, 4, 5, 5, 6, 6, 7)
            + Sentences.list("vertex(%, 5)", 0, 0, 32, 0, 0, 4, 0, 0) + Sentences.list("vertex(%, 4)", 2, 1, 0, 0, 0, 0, 0, 0)
            + "told(8) = 1; image(2, 5, 2) = NONE");
    }

    // ---- PATTERNS

    private static void patterns() {
        says("There are nine patterns, each with 2 to 4 vertices:");
        run("copies(-1) = BAD; copies(0) = 0; copies(8) = 0; copies(9) = BAD; counted(-1) = BAD; counted(8) = NONE; "
            + "counted(9) = BAD");
        // With H = 5 all of them can be counted, with H = 3 only the one with 2 vertices.
        run(Sentences.cards(5, 0, 0, 0, 0, 0) + Sentences.list("counted(%)", 0, 0, 0, 0, 0, 0, 0, 0, 0, -1));
        run(Sentences.cards(3, 0, 0, 0) + Sentences.list("counted(%)", 0, -9, -9, -9, -9, -9, -9, -9, -9, -1));
        String star = Sentences.graph(8, 7, 0, 7, 1, 7, 2, 7, 3, 7, 4, 7, 5, 7, 6);
        pattern("0 an edge;", Sentences.graph(2, 0, 1), 1, 0, 0, 0, 0, 0, 0, 0, 0);
        run("begin(8); become(268435455); copies(0) = 28; become(0); copies(0) = 0");
        pattern("1 a path with 3 vertices;", Sentences.graph(3, 0, 1, 1, 2), 2, 1, 0, 0, 0, 0, 0, 0, 0);
        run(star + "copies(1) = 21; become(0); edge(0, 1, 1); edge(2, 3, 1); copies(1) = 0");
        pattern("2 a triangle;", Sentences.graph(3, 0, 1, 1, 2, 2, 0), 3, 3, 1, 0, 0, 0, 0, 0, 0);
        run(Sentences.graph(5, 0, 1, 1, 2, 2, 0, 0, 3, 3, 4, 4, 0) + "copies(2) = 2; edge(3, 4, 0); copies(2) = 1");
        pattern("3 a star with 3 leaves;", Sentences.graph(4, 0, 1, 0, 2, 0, 3), 3, 3, 0, 1, 0, 0, 0, 0, 0);
        run(star + "copies(3) = 35; copies(4) = 0");
        pattern("4 a path with 4 vertices;", Sentences.graph(4, 0, 1, 1, 2, 2, 3), 3, 2, 0, 0, 1, 0, 0, 0, 0);
        // The ends of the path are different: a triangle has none.
        run(Sentences.graph(8, 0, 1, 1, 2, 2, 0) + "copies(4) = 0; edge(0, 3, 1); copies(4) = 2; edge(2, 1, 0); copies(4) = 0");
        pattern("5 a cycle with 4 vertices;", Sentences.graph(4, 0, 1, 1, 2, 2, 3, 3, 0), 4, 4, 0, 0, 4, 1, 0, 0, 0);
        run(Sentences.graph(5, 0, 2, 0, 3, 0, 4, 1, 2, 1, 3, 1, 4) + "copies(5) = 3; edge(1, 4, 0); copies(5) = 1");
        pattern("6 a triangle with one more edge from one of its vertices to a fourth vertex;",
            Sentences.graph(4, 0, 1, 1, 2, 2, 0, 2, 3), 4, 5, 1, 1, 2, 0, 1, 0, 0);
        run(Sentences.graph(6, 0, 1, 1, 2, 2, 0, 3, 4) + "copies(6) = 0; edge(2, 3, 1); copies(6) = 1; edge(2, 5, 1); copies(6) = 2");
        pattern("7 two triangles with a common edge;",
            Sentences.graph(4, 0, 1, 1, 2, 2, 0, 2, 3, 3, 1), 5, 8, 2, 2, 6, 1, 4, 1, 0);
        run(Sentences.graph(5, 0, 1, 0, 2, 1, 2, 0, 3, 1, 3, 0, 4, 1, 4) + "copies(7) = 3; edge(0, 1, 0); copies(7) = 0");
        pattern("8 four vertices that are all adjacent.", "become(63); ", 6, 12, 4, 4, 12, 3, 12, 6, 1);
        run("begin(5); become(1023); copies(8) = 5; edge(0, 1, 0); copies(8) = 2; edge(2, 3, 0); copies(8) = 0");
        says("A copy of a pattern in a graph is a set of edges of the graph that, together with the vertices at their ends, "
            + "is isomorphic to the pattern.");
        // Of four adjacent vertices, three sets of edges are cycles; a vertex without edges is in no copy.
        run("become(63); copies(5) = 3; copies(3) = 4");
        run(Sentences.graph(8, 6, 7) + "copies(0) = 1; copies(1) = 0");
        says("(The graph can have more edges between these vertices.)");
        run(Sentences.graph(3, 0, 1, 1, 2, 2, 0) + "copies(1) = 3");
        run("become(63); copies(4) = 12; copies(7) = 6");
    }

    private static void pattern(String sentence, String calls, int... copies) {
        says(sentence);
        run(calls + Sentences.list("copies(%)", copies));
    }

    // ---- THE HELD DECK

    private static void heldDeck() {
        says("The workshop holds a deck: a number H from 3 to 6,");
        run("hold(2) = BAD; deck(0) = 4; hold(3) = 0; deck(0) = 3; hold(6) = 0; deck(0) = 6; hold(7) = BAD; deck(0) = 6");
        run("begin(3); keepDeck() = 3; deck(0) = 3; begin(6); keepDeck() = 6; deck(0) = 6");
        says("and at most H cards,");
        for (int h = 3; h <= 6; h++) {
            run(Sentences.cards(h, new int[h]) + "addCard(0) = FULL; deck(1) = " + h + "; dropCard(0) = " + (h - 1)
                + "; addCard(0) = 0; addCard(0) = FULL");
        }
        says("which are graphs with H - 1 vertices;");
        for (int h = 3; h <= 6; h++) {
            int all = (1 << (h - 1) * (h - 2) / 2) - 1;
            run("hold(" + h + "); addCard(" + all + ") = 0; card(0, 1) = " + (h - 1) * (h - 2) / 2 + "; addCard(" + (all + 1)
                + ") = BAD");
        }
        says("cards with the same code can occur several times.");
        run(Sentences.cards(4, 5, 6, 3, 5) + "deck(1) = 4; deck(2) = 1; " + Sentences.list("card(%, 0)", 3, 3, 3, 3));
        says("They are numbered from 0 in ascending order of their canonical codes.");
        run(Sentences.cards(4, 7, 4, 6, 0) + "card(-1, 0) = BAD; " + Sentences.list("card(%, 0)", 0, 1, 3, 7, -1));
        says("At first H is 4, and there are no cards.");
        run("deck(0) = 4; deck(1) = 0; deck(2) = 0; card(0, 0) = BAD");
        says("If it has less than H cards, the others are lost.");
        for (int h = 3; h <= 6; h++) {
            for (int many = 0; many < h; many++) {
                run(Sentences.cards(h, new int[many]) + "deck(3) = " + (h - many)
                    + "; deck(4) = NONE; deck(5) = NONE; counted(0) = NONE; deck(8) = 0");
            }
            run(Sentences.cards(h, new int[h]) + "deck(3) = 0; deck(4) = 0; deck(5) = 0; counted(0) = 0; card(0, 3) = 0");
        }
    }

    private static void answers() {
        says("A graph with H vertices is an answer if its deck contains each code at least as often as the held deck;");
        run("addCard(0); " + Sentences.list("answer(%)", 0, 1, 3, 7, -9) + "addCard(0); " + Sentences.list("answer(%)", 0, 1, -9)
            + "addCard(0); " + Sentences.list("answer(%)", 0, -9) + "addCard(0); " + Sentences.list("answer(%)", 0, -9));
        run("addCard(7); " + Sentences.list("answer(%)", 11, 15, 31, 63, -9) + "addCard(7); "
            + Sentences.list("answer(%)", 31, 63, -9) + "addCard(7); " + Sentences.list("answer(%)", 63, -9)
            + "addCard(3); deck(6) = 0; answer(0) = NONE");
        run("addCard(0); addCard(7); deck(6) = 0");
        says("answers are told by their canonical codes, each once.");
        run("hold(5); addCard(0); " + Sentences.list("answer(%)", 0, 1, 3, 7, 15, -9) + "deck(6) = 5");
        run("hold(6); addCard(1023); deck(6) = 6; answer(5) = 32767; answer(6) = NONE");
        says("If no card is lost, an answer has exactly the held deck.");
        for (int code : new int[] {0, 1, 3, 7}) {
            keepAndFind(3, code);
        }
        for (int code : new int[] {0, 1, 3, 7, 11, 12, 13, 15, 30, 31, 63}) {
            keepAndFind(4, code);
        }
        for (int code : new int[] {0, 1, 15, 20, 58, 184, 207, 220, 495, 1023}) {
            keepAndFind(5, code);
        }
        keepAndFind(6, 0);
        keepAndFind(6, 5905);
        keepAndFind(6, 32767);
    }

    private static void keepAndFind(int n, int code) {
        run("begin(" + n + "); become(" + code + "); keepDeck() = " + n + "; deck(3) = 0; deck(6) = 1; answer(0) = " + code
            + "; answer(1) = NONE; missing(0) = NONE; become(0); accept(0); told(2) = " + code + "; deck(8) = 1");
    }

    private static void counting() {
        says("If no card is lost, numbers of an answer can be computed by counting, even if there is no answer.");
        run(Sentences.cards(4, 1, 1, 7, 7) + "deck(6) = 0; deck(4) = 4; card(0, 3) = 3; card(3, 3) = 1; "
            + Sentences.list("counted(%)", 4, 6, 2, -9) + "dropCard(0) = 3; deck(4) = NONE; card(0, 3) = NONE; counted(0) = NONE");
        says("Each edge of a graph with H vertices is in H - 2 of its cards, and a copy of a pattern with k vertices is in "
            + "H - k of them.");
        run("begin(3); become(7); keepDeck(); " + Sentences.list("counted(%)", 3, -9, -9, -9));
        run("become(63); keepDeck(); " + Sentences.list("counted(%)", 6, 12, 4, -9, -9, -9, -9, -9, -9));
        run("begin(5); become(1023); keepDeck(); " + Sentences.list("counted(%)", 10, 30, 10, 20, 60, 15, 60, 30, 5));
        run("begin(6); become(32767); keepDeck(); " + Sentences.list("counted(%)", 15, 60, 20, 60, 180, 45, 180, 90, 15));
        says("So the number of edges M is the sum of the numbers of edges of all cards, divided by H - 2;");
        run(Sentences.cards(3, 1, 1, 0) + "deck(4) = 2; counted(0) = 2");
        run(Sentences.cards(6, 15, 0, 0, 0, 0, 0) + "deck(4) = 1; counted(0) = 1");
        run(Sentences.cards(6, 7, 0, 0, 0, 0, 0) + "deck(4) = NONE; counted(0) = NONE");
        says("the number of copies of a pattern with k vertices, k less than H, is the sum of its numbers of copies in all "
            + "cards, divided by H - k;");
        // k = H - 1: the sum is not divided, so it may be any number.
        run(Sentences.cards(4, 3, 0, 0, 0) + "counted(1) = 1; counted(2) = 0; counted(3) = NONE");
        run(Sentences.cards(5, 63, 0, 0, 0, 0) + "counted(8) = 1; counted(2) = 2; counted(1) = 6; counted(0) = 2");
        run(Sentences.cards(5, 11, 0, 0, 0, 0) + "counted(0) = 1; counted(1) = NONE; counted(2) = NONE; counted(3) = 0");
        says("and the vertex that is not in a card has the degree M minus the number of edges of this card.");
        run(Sentences.cards(4, 0, 3, 3, 3) + Sentences.list("card(%, 3)", 3, 1, 1, 1, -1));
        run(Sentences.cards(3, 0, 0, 1) + Sentences.list("card(%, 3)", 1, 1, 0));
    }

    private static void deckTests() {
        says("The held deck passes these tests, in this order:");
        // The sum 3 is odd, and half of it, 1, is less than 3 edges: the first test is told, not the second.
        run(Sentences.cards(4, 0, 0, 0, 7) + "deck(5) = 1");
        // The degrees 2 2 1 -1 fit to no graph either: the second test is told, not the third.
        run(Sentences.cards(4, 0, 0, 1, 7) + "deck(4) = 2; deck(5) = 2");
        run(Sentences.cards(4, 0, 0, 3, 3) + "deck(4) = 2; deck(5) = 3");
        says("1 the sum of the numbers of edges of all cards is divisible by H - 2;");
        run(Sentences.cards(3, 0, 0, 1) + "deck(5) = 0");
        run(Sentences.cards(4, 0, 0, 0, 1) + "deck(5) = 1");
        run(Sentences.cards(4, 0, 0, 1, 1) + "deck(5) = 0");
        run(Sentences.cards(5, 0, 0, 0, 0, 1) + "deck(5) = 1");
        run(Sentences.cards(5, 0, 0, 0, 1, 1) + "deck(5) = 1");
        run(Sentences.cards(5, 0, 0, 1, 1, 1) + "deck(5) = 0");
        run(Sentences.cards(6, 0, 0, 0, 1, 1, 1) + "deck(5) = 1");
        run(Sentences.cards(6, 0, 0, 1, 1, 1, 1) + "deck(5) = 0");
        says("2 all degrees lie between 0 and H - 1;");
        degrees(4, 0, 3, 1, 1, 1);
        degrees(4, 2, 4, 2, 1, 1);
        degrees(4, 2, 2, 2, 1, -1);
        degrees(5, 0, 4, 1, 1, 1, 1);
        degrees(5, 2, 5, 2, 1, 1, 1);
        degrees(5, 2, 2, 2, 2, -1, -1);
        degrees(6, 0, 5, 1, 1, 1, 1, 1);
        degrees(6, 2, 6, 2, 1, 1, 1, 1);
        degrees(6, 2, 2, 2, 2, 0, -1, -1);
        degrees(6, 0, 0, 0, 0, 0, 0, 0);
        degrees(6, 0, 5, 5, 5, 5, 5, 5);
        says("3 there is a graph with H vertices that has these degrees, that is, if d(1) to d(H) are the degrees in "
            + "descending order, for each k from 1 to H the sum of the first k of them is at most k * (k - 1) plus the sum, "
            + "over all others, of the smaller one of the degree and k.");
        // Each of these exceeds the bound for one k alone: 1, 2, 3 and 4.
        degrees(5, 3, 4, 2, 2, 2, 0);
        degrees(4, 3, 3, 3, 1, 1);
        degrees(5, 3, 4, 4, 4, 2, 2);
        degrees(6, 3, 5, 5, 5, 5, 3, 3);
        // And these reach it: a star, and two, three and four vertices that are adjacent to all.
        degrees(5, 0, 4, 1, 1, 1, 1);
        degrees(5, 0, 4, 4, 2, 2, 2);
        degrees(5, 0, 4, 4, 4, 3, 3);
        degrees(6, 0, 5, 5, 5, 5, 4, 4);
        // In the order of these cards, the degrees 4 1 1 1 3 0 would stay within every bound.
        run(Sentences.cards(6, 1, 15, 15, 15, 20, 31) + Sentences.list("card(%, 3)", 4, 1, 1, 1, 3, 0) + "deck(5) = 3");
    }

    /** A deck whose degrees are these: each card has as many edges as are left. */
    private static void degrees(int h, int test, int... degrees) {
        int sum = 0;
        for (int degree : degrees) {
            sum += degree;
        }
        int[] codes = new int[h];
        for (int k = 0; k < h; k++) {
            codes[k] = (1 << sum / 2 - degrees[k]) - 1;
        }
        run(Sentences.cards(h, codes) + "deck(4) = " + sum / 2 + "; deck(5) = " + test);
    }

    // ---- CHANGES

    private static void changes() {
        says("begin, edge, become, hold, keepDeck, addCard, dropCard and accept are changes.");
        run("begin(4) = 4; told(9) = 1; edge(0, 1, 1) = 0; told(9) = 2; become(63) = 32; told(9) = 3; hold(4) = 0; told(9) = 4; "
            + "keepDeck() = 4; told(9) = 5; dropCard(0) = 3; told(9) = 6; addCard(7) = 0; told(9) = 7; accept(0) = 6; told(9) = 8");
        // The other methods are none.
        run("become(41); keepDeck(); told(3) = 13; vertex(0, 2) = 3; image(0, 3, 1) = 2; copies(4) = 1; card(0, 4) = 2; "
            + "deck(6) = 1; deck(7) = 4; counted(0) = 3; answer(0) = 13; missing(0) = NONE; told(9) = 2; undo() = 1; "
            + "told(9) = 1; undo() = 0; told(9) = 0; undo() = STATE");
        says("A history of at most 8 states is kept:");
        run("become(1); become(2); become(3); become(4); become(5); become(6); become(7); told(9) = 7; become(8); told(9) = 8; "
            + "become(9); told(9) = 8; undo() = 7; undo() = 6; undo() = 5; undo() = 4; undo() = 3; undo() = 2; undo() = 1; "
            + "undo() = 0; undo() = STATE; told(2) = 1");
        says("a change that returns no error code records the graph and the held deck before it;");
        String before = Sentences.graph(5, 0, 4) + Sentences.cards(4, 7, 7, 1);
        for (String change : new String[] {"begin(2)", "edge(1, 2, 1)", "become(1023)", "hold(5)", "keepDeck()", "addCard(0)",
            "dropCard(1)"}) {
            run(before + change + "; undo() = 6; told(0) = 5; told(2) = 8; deck(0) = 4; deck(1) = 3; "
                + Sentences.list("card(%, 0)", 1, 7, 7, -1));
        }
        run(Sentences.graph(5, 0, 4) + Sentences.cards(4, 7, 7) + "accept(0) = 5; told(0) = 4; undo() = 5; told(0) = 5; "
            + "told(2) = 8; deck(0) = 4; " + Sentences.list("card(%, 0)", 7, 7, -1));
        run("edge(0, 0, 1) = BAD; addCard(8) = BAD; told(9) = 0; undo() = STATE");
    }

    private static void history() {
        says("if there are more than 8, the oldest one is dropped;");
        StringBuilder eight = new StringBuilder();
        StringBuilder back = new StringBuilder();
        for (int i = 1; i <= 8; i++) {
            eight.append("become(").append(i).append(") = ").append(i - 1).append("; ");
            back.append("undo() = ").append(8 - i).append("; ");
        }
        run(eight + back.toString() + "told(2) = 0; undo() = STATE; told(2) = 0");
        run(eight + "become(9) = 8; " + back + "told(2) = 1; undo() = STATE; told(2) = 1");
        run(eight + "become(9); become(10); hold(3); addCard(1); " + back + "told(2) = 4; deck(0) = 4; undo() = STATE");
        says("undo() removes the latest state and restores it.");
        // The history is filled beyond its end, partly undone, and filled beyond its end again.
        run(eight + "become(9); become(10); become(11); become(12) = 11; undo() = 7; told(2) = 11; undo() = 6; undo() = 5; "
            + "undo() = 4; undo() = 3; told(2) = 7; become(20) = 7; become(21); become(22); become(23); become(24); told(9) = 8; "
            + "undo() = 7; told(2) = 23; undo() = 6; told(2) = 22; undo() = 5; told(2) = 21; undo() = 4; told(2) = 20; "
            + "undo() = 3; told(2) = 7; undo() = 2; told(2) = 6; undo() = 1; told(2) = 5; undo() = 0; told(2) = 4; undo() = STATE");
        // What has been undone is gone: undo never brings a later state back.
        run("become(1); become(2); undo() = 1; told(2) = 1; undo() = 0; told(2) = 0; undo() = STATE; told(2) = 0; told(9) = 0");
    }

    // ---- the examples and the constants

    private static void examples() {
        List<MatchResult> found = Pattern.compile("\\d\\. [^:]+: (\\w+\\([^:]*?)\\.(?= \\d\\. | The constants)")
            .matcher(Sentences.section(HERE)).results().toList();
        for (MatchResult example : found) {
            says(example.group());
            run(example.group(1));
        }
    }

    private static void constants() {
        says("`BAD = -1, STATE = -2, FULL = -3, NONE = -9`: The error codes, and the value for \"there is none\".");
        Sentences.due("BAD", constant("BAD"), -1);
        Sentences.due("STATE", constant("STATE"), -2);
        Sentences.due("FULL", constant("FULL"), -3);
        Sentences.due("NONE", constant("NONE"), -9);
    }

    /** The constant of the class as it is now: javac would write the number into this test. */
    private static int constant(String name) {
        try {
            return GraphDeck.class.getField(name).getInt(null);
        } catch (ReflectiveOperationException e) {
            return 0;
        }
    }

    private static void tellsOnly() {
        for (String sentence : new String[] {
            "The class edits a graph and analyzes it: its cards, automorphisms, similar and pseudo-similar vertices, and "
                + "copies of small patterns.",
            "Beside it, it holds a deck of cards, of which some can be lost; it computes numbers of the unknown graph by "
                + "counting in the cards, finds all graphs that have these cards, the cards that are missing, and how many "
                + "cards are enough.",
            "CONVENTIONS", "GRAPHS", "CARDS", "PATTERNS", "THE HELD DECK", "CHANGES",
            "Examples: Each of them begins with a new object; the results are given behind the calls.", "The constants:",
            "The constructor and the methods follow, a promise each: the signature, then what it does."}) {
            Sentences.tellsOnly(HERE, sentence);
        }
    }
}
