/** The sentences of promises 1 to 9. */
final class GraphSentences {
    // Triangles 0 1 2 and 3 4 5, the edge 2 3, and the tail 5 6 7: 2 and 5 are pseudo-similar, 0 and 1 are similar.
    private static final String PSEUDO_SIMILAR = Sentences.graph(8, 0, 1, 1, 2, 0, 2, 2, 3, 3, 4, 3, 5, 4, 5, 5, 6, 6, 7);
    // A triangle 1 2 5, one more vertex at 1, and two in a row at 2.
    private static final String ASYMMETRIC = Sentences.graph(6, 0, 1, 1, 2, 2, 3, 3, 4, 5, 1, 5, 2);
    private static final String CYCLE_OF_6 = Sentences.graph(6, 0, 1, 1, 2, 2, 3, 3, 4, 4, 5, 5, 0);
    private static final int ALL_EDGES = 268435455;

    private GraphSentences() {
    }

    static void test() {
        newObject();
        begin();
        edge();
        edgeErrors();
        become();
        undo();
        toldSizes();
        toldSymmetry();
        vertex();
        vertexErrors();
        image();
        copies();
    }

    private static void says(int promise, String sentence) {
        Sentences.says(promise, sentence);
    }

    private static void run(String calls) {
        Sentences.run(calls);
    }

    private static void newObject() {
        says(1, "Creates a workshop with a graph of 4 vertices without edges,");
        run("told(0) = 4; told(1) = 0; told(2) = 0; told(7) = 4; vertex(3, 1) = 0; vertex(4, 1) = BAD; become(63) = 0");
        says(1, "and a held deck with H = 4 and no cards;");
        run("deck(0) = 4; deck(1) = 0; deck(2) = 0; deck(3) = 4; deck(4) = NONE; deck(5) = NONE; deck(6) = STATE; "
            + "deck(7) = STATE; deck(8) = 0; card(0, 0) = BAD; dropCard(0) = BAD; counted(0) = NONE; answer(0) = STATE; "
            + "missing(0) = STATE; accept(0) = BAD; addCard(8) = BAD; addCard(7) = 0");
        run("hold(4) = 0");
        says(1, "nothing can be undone.");
        run("undo() = STATE; told(9) = 0; told(0) = 4; told(2) = 0; deck(0) = 4; deck(1) = 0");
        // Objects do not know of one another.
        GraphDeck other = new GraphDeck();
        other.begin(7);
        run("told(0) = 4; undo() = STATE; told(9) = 0");
    }

    private static void begin() {
        says(2, "Begins a new graph without edges.");
        run("become(63); begin(4) = 4; told(1) = 0; told(2) = 0");
        // No edge comes back when the graph grows again.
        run("begin(8); become(" + ALL_EDGES + "); begin(1); begin(8) = 1; told(1) = 0; vertex(7, 1) = 0");
        run("become(63); keepDeck() = 4; begin(6) = 4; deck(0) = 4; deck(1) = 4; card(3, 0) = 7");
        says(2, "This is a change.");
        run("begin(4) = 4; told(9) = 1; begin(4) = 4; told(9) = 2; undo() = 1; undo() = 0");
        run("become(41); begin(8); undo() = 1; told(0) = 4; told(2) = 41");
        says(2, "`n`: the number of vertices, 1 to 8");
        for (int n = 1; n <= 8; n++) {
            run("begin(" + n + ") = 4; told(0) = " + n);
        }
        says(2, "Returns the previous number of vertices;");
        run("begin(1) = 4; begin(8) = 1; begin(8) = 8; begin(0) = BAD; begin(2) = 8; undo(); begin(3) = 8");
        says(2, "BAD if n is out of range.");
        run("begin(0) = BAD; begin(9) = BAD; begin(-1) = BAD; " + Sentences.far("begin(%)", "BAD") + "told(0) = 4; told(9) = 0");
    }

    private static void edge() {
        says(3, "Makes two vertices adjacent or not adjacent.");
        run("edge(0, 3, 1); vertex(0, 1) = 8; vertex(3, 1) = 1; edge(0, 3, 0); vertex(0, 1) = 0; vertex(3, 1) = 0");
        // Only this pair is altered, in the full graph as in the empty one.
        run("become(63); edge(3, 0, 0) = 1; told(2) = 59; edge(1, 0, 0) = 1; told(2) = 27; edge(0, 1, 1) = 0; told(2) = 59");
        says(3, "This is a change.");
        run("edge(0, 1, 0) = 0; told(9) = 1; edge(0, 1, 1) = 0; told(9) = 2; edge(0, 1, 1) = 1; told(9) = 3; undo() = 2; "
            + "told(1) = 1; undo() = 1; told(1) = 0; undo() = 0; told(1) = 0");
        says(3, "`u`: a vertex");
        run("edge(0, 2, 1) = 0; edge(1, 2, 1) = 0; edge(3, 2, 1) = 0; told(2) = 25; edge(4, 2, 1) = BAD");
        says(3, "`v`: another vertex");
        run("begin(2); edge(0, 1, 1) = 0; edge(1, 0, 1) = 1; edge(1, 2, 1) = BAD");
        run("begin(8); edge(7, 6, 1) = 0; told(2) = 1; edge(0, 7, 1) = 0; told(2) = 65; edge(7, 8, 1) = BAD");
        says(3, "`on`: 1 adjacent, 0 not adjacent");
        run("edge(1, 2, 1); vertex(1, 1) = 4; edge(1, 2, 0); vertex(1, 1) = 0");
        says(3, "Returns 1 if they were adjacent, 0 if not;");
        run("edge(2, 3, 0) = 0; edge(2, 3, 1) = 0; edge(2, 3, 1) = 1; edge(3, 2, 0) = 1; edge(3, 2, 0) = 0");
    }

    private static void edgeErrors() {
        says(3, "BAD if there is no such vertex,");
        run("edge(4, 0, 1) = BAD; edge(0, 4, 1) = BAD; edge(-1, 0, 1) = BAD; edge(0, -1, 1) = BAD; edge(4, 5, 0) = BAD; "
            + "edge(7, 0, 0) = BAD; edge(0, 31, 1) = BAD; edge(32, 1, 1) = BAD; " + Sentences.far("edge(%, 0, 1)", "BAD")
            + Sentences.far("edge(0, %, 1)", "BAD") + "told(2) = 0; told(9) = 0");
        // A vertex that the graph had before, or will have again, does not exist now.
        run("begin(8); begin(7); edge(7, 0, 1) = BAD; undo(); edge(7, 0, 1) = 0");
        says(3, "both are the same,");
        run("edge(0, 0, 1) = BAD; edge(3, 3, 1) = BAD; edge(2, 2, 0) = BAD; edge(4, 4, 1) = BAD; told(1) = 0; told(9) = 0");
        run("begin(1); edge(0, 0, 1) = BAD; edge(0, 0, 0) = BAD; told(9) = 1");
        says(3, "or on is out of range.");
        run("edge(0, 1, 2) = BAD; edge(0, 1, -1) = BAD; " + Sentences.far("edge(0, 1, %)", "BAD") + "told(1) = 0; told(9) = 0");
    }

    private static void become() {
        says(4, "Replaces the edges of the graph;");
        run("become(32); become(1) = 32; told(1) = 1; vertex(0, 0) = 0; vertex(2, 1) = 8; become(0) = 1; told(1) = 0");
        says(4, "the number of vertices stays.");
        run("become(0); told(0) = 4; become(1); told(0) = 4; begin(8); become(1); told(0) = 8; begin(1); become(0); told(0) = 1");
        says(4, "This is a change.");
        run("become(0) = 0; told(9) = 1; become(9) = 0; become(9) = 9; told(9) = 3; undo() = 2; told(2) = 9; undo() = 1; told(2) = 0");
        says(4, "`code`: the code of the new graph");
        run("become(41); vertex(0, 1) = 2; vertex(1, 1) = 5; vertex(2, 1) = 10; vertex(3, 1) = 4; told(2) = 41");
        says(4, "Returns the previous code;");
        run("become(63) = 0; become(13) = 63; become(64) = BAD; become(0) = 13; edge(0, 1, 1); become(7) = 32; begin(5); become(1) = 0");
        says(4, "BAD if code is negative,");
        run("become(-1) = BAD; become(MIN) = BAD; become(-64) = BAD; told(2) = 0; told(9) = 0");
        run("begin(8); become(-1) = BAD; become(MIN) = BAD; begin(1); become(-1) = BAD; become(MIN) = BAD; told(9) = 2");
        says(4, "or 2 to the power of N * (N - 1) / 2 or more.");
        for (int n = 1; n <= 8; n++) {
            int limit = 1 << n * (n - 1) / 2;
            run("begin(" + n + "); become(" + limit + ") = BAD; become(" + (limit + 1) + ") = BAD; become(MAX) = BAD; "
                + "told(9) = 1; become(" + (limit - 1) + ") = 0; told(2) = " + (limit - 1) + "; told(1) = " + n * (n - 1) / 2);
        }
    }

    private static void undo() {
        says(5, "Undoes a change, as described above.");
        run("become(41); hold(3); addCard(1); undo() = 2; deck(0) = 3; deck(1) = 0; undo() = 1; deck(0) = 4; told(2) = 41; "
            + "undo() = 0; told(2) = 0");
        says(5, "Returns how many changes can still be undone;");
        run("begin(1); begin(2); begin(3); undo() = 2; undo() = 1; undo() = 0");
        run("begin(1); begin(2); begin(3); begin(4); begin(5); begin(6); begin(7); begin(8); begin(1); undo() = 7; told(9) = 7; "
            + "told(0) = 8; begin(2) = 8; undo() = 7; undo() = 6");
        says(5, "STATE if there is none.");
        run("undo() = STATE; undo() = STATE; begin(9) = BAD; undo() = STATE; begin(8); undo() = 0; undo() = STATE; told(0) = 4");
        run("begin(1); begin(2); begin(3); begin(4); begin(5); begin(6); begin(7); begin(8); begin(1); undo(); undo(); undo(); "
            + "undo(); undo(); undo(); undo(); undo() = 0; undo() = STATE; told(0) = 1; told(9) = 0");
    }

    private static void toldSizes() {
        says(6, "Returns a number of the graph.");
        run("hold(6); addCard(1); told(0) = 4; told(1) = 0");
        says(6, "`what`: 0 vertices;");
        run("begin(1); told(0) = 1; begin(8); told(0) = 8");
        says(6, "1 edges;");
        run("begin(1); told(1) = 0; begin(8); told(1) = 0; become(" + ALL_EDGES + "); told(1) = 28; edge(0, 7, 0); told(1) = 27");
        says(6, "2 its code;");
        run("begin(1); told(2) = 0; begin(8); become(" + ALL_EDGES + "); told(2) = " + ALL_EDGES + "; become(1); told(2) = 1; "
            + "become(134217728); told(2) = 134217728");
        says(6, "3 its canonical code;");
        run("begin(1); told(3) = 0; begin(2); told(3) = 0; become(1); told(3) = 1; begin(8); told(3) = 0; become(134217728); "
            + "told(3) = 1; become(" + ALL_EDGES + "); told(3) = " + ALL_EDGES);
        run(PSEUDO_SIMILAR + "told(2) = 239362177; told(3) = 5048770");
        says(6, "7 components;");
        run("begin(1); told(7) = 1; begin(8); told(7) = 8; become(" + ALL_EDGES + "); told(7) = 1");
        run(Sentences.graph(8, 0, 7, 7, 1, 1, 6, 6, 2, 2, 5, 5, 3, 3, 4) + "told(7) = 1; edge(4, 3, 0); told(7) = 2");
        run(Sentences.graph(8, 0, 4, 1, 5, 2, 6, 3, 7) + "told(7) = 4");
        says(6, "9 changes that can be undone");
        run("told(9) = 0; begin(1); told(9) = 1; begin(2); begin(3); begin(4); begin(5); begin(6); begin(7); told(9) = 7; "
            + "begin(8); told(9) = 8; begin(1); told(9) = 8; undo() = 7; told(9) = 7; begin(0) = BAD; told(9) = 7");
        says(6, "Returns the number; BAD if what is out of range.");
        run("told(-1) = BAD; told(10) = BAD; told(11) = BAD; " + Sentences.far("told(%)", "BAD") + "told(0) = 4; told(9) = 0");
    }

    private static void toldSymmetry() {
        says(6, "4 automorphisms;");
        run("begin(1); told(4) = 1; begin(2); told(4) = 2; become(1); told(4) = 2; begin(8); told(4) = 40320; become("
            + ALL_EDGES + "); told(4) = 40320; edge(0, 1, 0); told(4) = 1440");
        run(CYCLE_OF_6 + "told(4) = 12");
        run(PSEUDO_SIMILAR + "told(4) = 2");
        run(ASYMMETRIC + "told(4) = 1");
        says(6, "5 classes of similar vertices (a vertex that is similar to no other one is a class);");
        run("begin(1); told(5) = 1; begin(8); told(5) = 1; become(" + ALL_EDGES + "); told(5) = 1");
        run(PSEUDO_SIMILAR + "told(5) = 7");
        run(ASYMMETRIC + "told(5) = 6");
        run(Sentences.graph(4, 0, 1, 1, 2, 2, 3) + "told(5) = 2");
        says(6, "6 different cards (0 if N is 1);");
        run("begin(1); told(6) = 0; begin(2); told(6) = 1; become(1); told(6) = 1; begin(8); told(6) = 1");
        run(PSEUDO_SIMILAR + "told(6) = 6");
        run(ASYMMETRIC + "told(6) = 6");
        says(6, "8 pairs of pseudo-similar vertices;");
        run("begin(1); told(8) = 0; begin(2); told(8) = 0; begin(8); told(8) = 0; become(" + ALL_EDGES + "); told(8) = 0");
        run(PSEUDO_SIMILAR + "told(8) = 1");
    }

    private static void vertex() {
        says(7, "Returns a property of a vertex.");
        run("edge(0, 1, 1); vertex(0, 0) = 1; vertex(0, 1) = 2; told(9) = 1");
        says(7, "`v`: the vertex");
        run(Sentences.graph(8, 7, 0) + "vertex(0, 0) = 1; vertex(1, 0) = 0; vertex(6, 0) = 0; vertex(7, 0) = 1; vertex(8, 0) = BAD");
        says(7, "`what`: 0 its degree;");
        run("begin(1); vertex(0, 0) = 0; begin(8); vertex(7, 0) = 0; become(" + ALL_EDGES + "); vertex(0, 0) = 7; vertex(7, 0) = 7");
        says(7, "1 the set of the vertices adjacent to it, in which bit u stands for vertex u;");
        run("begin(1); vertex(0, 1) = 0; begin(8); become(" + ALL_EDGES + "); vertex(0, 1) = 254; vertex(7, 1) = 127");
        run(Sentences.graph(8, 3, 0, 7, 3) + "vertex(3, 1) = 129; vertex(0, 1) = 8; vertex(7, 1) = 8; vertex(4, 1) = 0");
        says(7, "2 the canonical code of its card;");
        run(Sentences.graph(2, 0, 1) + "vertex(0, 2) = 0; vertex(1, 2) = 0");
        run("begin(8); vertex(7, 2) = 0; become(" + ALL_EDGES + "); vertex(0, 2) = 2097151; vertex(7, 2) = 2097151");
        // The plain code of the first card would be 4, of the last one 6.
        run(Sentences.graph(4, 1, 2) + "vertex(0, 2) = 1; vertex(1, 2) = 0; vertex(3, 2) = 1");
        run(Sentences.graph(4, 0, 1, 0, 2) + "vertex(3, 2) = 3");
        says(7, "3 the number of edges of its card;");
        run(Sentences.graph(2, 0, 1) + "vertex(0, 3) = 0; vertex(1, 3) = 0");
        run("begin(8); vertex(7, 3) = 0; become(" + ALL_EDGES + "); vertex(0, 3) = 21; edge(0, 7, 0); vertex(7, 3) = 21; vertex(1, 3) = 20");
        says(7, "4 the set of the vertices that are similar to it;");
        run("begin(2); vertex(0, 4) = 2; vertex(1, 4) = 1; begin(8); vertex(0, 4) = 254; vertex(7, 4) = 127; vertex(4, 4) = 239");
        run(PSEUDO_SIMILAR + Sentences.list("vertex(%, 4)", 2, 1, 0, 0, 0, 0, 0, 0));
        says(7, "5 the set of the vertices that are pseudo-similar to it");
        run("begin(2); vertex(0, 5) = 0; begin(8); vertex(0, 5) = 0; vertex(7, 5) = 0");
        run(PSEUDO_SIMILAR + Sentences.list("vertex(%, 5)", 0, 0, 32, 0, 0, 4, 0, 0));
    }

    private static void vertexErrors() {
        says(7, "Returns the property; BAD if there is no such vertex");
        for (int n = 1; n <= 8; n++) {
            for (int what = 0; what <= 5; what++) {
                run("begin(" + n + "); vertex(" + n + ", " + what + ") = BAD; vertex(-1, " + what + ") = BAD; "
                    + Sentences.far("vertex(%, " + what + ")", "BAD"));
            }
        }
        says(7, "or what is out of range;");
        run("vertex(0, -1) = BAD; vertex(0, 6) = BAD; vertex(3, 7) = BAD; " + Sentences.far("vertex(0, %)", "BAD"));
        run("begin(1); vertex(0, -1) = BAD; vertex(0, 6) = BAD");
        says(7, "NONE for 2 to 5 if N is 1.");
        run("begin(1); " + Sentences.list("vertex(0, %)", 0, 0, -9, -9, -9, -9, -1) + "begin(2); "
            + Sentences.list("vertex(0, %)", 0, 0, 0, 0, 2, 0, -1));
    }

    private static void image() {
        says(8, "Returns the image of a vertex under an automorphism that maps a vertex to another one:");
        run(Sentences.graph(4, 0, 1, 1, 2, 2, 3) + Sentences.list("image(0, 3, %)", 3, 2, 1, 0)
            + Sentences.list("image(2, 1, %)", 3, 2, 1, 0));
        says(8, "of all such automorphisms p the one for which the list p(0), p(1), ..., p(N - 1) is lexicographically smallest.");
        // A turn and a mirror map 0 to 2, and others 4 to 1; the last vertices of a graph without edges change places.
        run(CYCLE_OF_6 + Sentences.list("image(0, 2, %)", 2, 1, 0, 5, 4, 3) + Sentences.list("image(4, 1, %)", 3, 4, 5, 0, 1, 2));
        run("begin(8); " + Sentences.list("image(7, 6, %)", 0, 1, 2, 3, 4, 5, 7, 6) + Sentences.list("image(0, 7, %)", 7, 0, 1, 2, 3, 4, 5, 6)
            + Sentences.list("image(7, 0, %)", 1, 2, 3, 4, 5, 6, 7, 0));
        says(8, "`u`: the one vertex");
        run(Sentences.graph(8, 0, 1, 1, 2) + "image(0, 2, 2) = 0; image(2, 0, 2) = 0; image(7, 3, 3) = 4; image(8, 0, 0) = BAD");
        says(8, "`v`: the other vertex, possibly the same");
        run("begin(1); image(0, 0, 0) = 0; begin(8); " + Sentences.list("image(7, 7, %)", 0, 1, 2, 3, 4, 5, 6, 7)
            + Sentences.list("image(0, 0, %)", 0, 1, 2, 3, 4, 5, 6, 7));
        says(8, "`x`: the vertex whose image is asked for");
        run("begin(2); image(0, 1, 0) = 1; image(0, 1, 1) = 0; image(1, 0, 0) = 1; image(0, 1, 2) = BAD");
        says(8, "Returns its image; NONE if no automorphism maps u to v;");
        run(Sentences.graph(4, 0, 1, 1, 2, 2, 3) + "image(0, 1, 0) = NONE; image(0, 1, 3) = NONE; image(1, 3, 2) = NONE");
        run(PSEUDO_SIMILAR + "image(2, 5, 2) = NONE; image(5, 2, 0) = NONE; image(0, 1, 2) = 2");
        says(8, "BAD if there is no such vertex.");
        run("image(4, 0, 0) = BAD; image(0, 4, 0) = BAD; image(0, 0, 4) = BAD; image(-1, 0, 0) = BAD; image(0, -1, 0) = BAD; "
            + "image(0, 0, -1) = BAD; " + Sentences.far("image(%, 0, 0)", "BAD") + Sentences.far("image(0, %, 0)", "BAD")
            + Sentences.far("image(0, 0, %)", "BAD"));
        run("begin(1); image(1, 0, 0) = BAD; image(0, 1, 0) = BAD; image(0, 0, 1) = BAD; begin(8); image(8, 0, 0) = BAD; "
            + "image(0, 8, 0) = BAD; image(0, 0, 8) = BAD");
    }

    private static void copies() {
        says(9, "Counts copies of a pattern in the graph.");
        run("hold(6); addCard(1023); " + Sentences.list("copies(%)", 0, 0, 0, 0, 0, 0, 0, 0, 0));
        run("begin(1); " + Sentences.list("copies(%)", 0, 0, 0, 0, 0, 0, 0, 0, 0));
        says(9, "`pattern`: the pattern, 0 to 8");
        run("become(63); " + Sentences.list("copies(%)", 6, 12, 4, 4, 12, 3, 12, 6, 1, -1));
        says(9, "Returns the number of its copies;");
        run("begin(8); become(" + ALL_EDGES + "); " + Sentences.list("copies(%)", 28, 168, 56, 280, 840, 210, 840, 420, 70));
        // With fewer vertices than the pattern has there is no copy.
        run(Sentences.graph(3, 0, 1, 1, 2, 2, 0) + Sentences.list("copies(%)", 3, 3, 1, 0, 0, 0, 0, 0, 0));
        says(9, "BAD if pattern is out of range.");
        run("copies(-1) = BAD; copies(9) = BAD; copies(10) = BAD; " + Sentences.far("copies(%)", "BAD") + "begin(1); copies(9) = BAD");
    }
}
