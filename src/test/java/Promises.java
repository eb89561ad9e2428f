/** The document's examples and its promises, each with answers worked out by hand. */
public final class Promises {
    private static final int BAD = GraphDeck.BAD, STATE = GraphDeck.STATE, FULL = GraphDeck.FULL, NONE = GraphDeck.NONE;
    private static final int[] FAR = {Integer.MIN_VALUE, -100, -9, -2, -1, 100, 1 << 28, Integer.MAX_VALUE};

    private static String part = "";
    private static int asked = 0;
    private static int wrong = 0;

    public static void main(String[] args) {
        examples();
        promise1NewObject();
        promise2Begin();
        promise3Edge();
        promise4Become();
        promise5Undo();
        promise6Told();
        promise6PseudoSimilar();
        promise7Vertex();
        promise8Image();
        promise9Copies();
        promise10Hold();
        promise11KeepDeck();
        promise12AddCard();
        promise13DropCard();
        promise14Card();
        promise15Deck();
        promise15Tests();
        promise15Enough();
        promise16Counted();
        promise17Answer();
        promise18Missing();
        promise19Accept();
        historyOfEightStates();
        errorsChangeNothing();
        System.out.println(asked + " answers, " + wrong + " are not as due");
        if (wrong != 0) {
            System.exit(1);
        }
    }

    private static GraphDeck start(String name) {
        part = name;
        return new GraphDeck();
    }

    private static void due(String call, int got, int want) {
        asked++;
        if (got != want) {
            wrong++;
            System.out.println(part + ": " + call + " answered " + got + ", due is " + want);
        }
    }

    private static GraphDeck graph(String name, int n, int... ends) {
        GraphDeck x = start(name);
        x.begin(n);
        for (int i = 0; i + 1 < ends.length; i += 2) {
            due("edge(" + ends[i] + ", " + ends[i + 1] + ", 1)", x.edge(ends[i], ends[i + 1], 1), 0);
        }
        return x;
    }

    private static GraphDeck cards(String name, int h, int... codes) {
        GraphDeck x = start(name);
        x.hold(h);
        for (int code : codes) {
            x.addCard(code);
        }
        due("deck(1)", x.deck(1), codes.length);
        return x;
    }

    /** All that a change can alter, but for what is recorded. */
    private static String state(GraphDeck x) {
        StringBuilder text = new StringBuilder();
        text.append(x.told(0)).append(' ').append(x.told(2)).append(" | ").append(x.deck(0));
        for (int k = 0; k < x.deck(1); k++) {
            text.append(' ').append(x.card(k, 0));
        }
        return text.toString();
    }

    private static void same(String what, String got, String want) {
        asked++;
        if (!got.equals(want)) {
            wrong++;
            System.out.println(part + ": " + what + ": " + got + ", due is " + want);
        }
    }

    private static void examples() {
        GraphDeck x = start("example 1");
        due("edge(0, 1, 1)", x.edge(0, 1, 1), 0);
        due("edge(1, 2, 1)", x.edge(1, 2, 1), 0);
        due("edge(2, 3, 1)", x.edge(2, 3, 1), 0);
        due("told(2)", x.told(2), 41);
        due("told(3)", x.told(3), 13);
        due("told(4)", x.told(4), 2);
        due("vertex(0, 4)", x.vertex(0, 4), 8);
        due("image(0, 3, 1)", x.image(0, 3, 1), 2);
        due("copies(1)", x.copies(1), 2);
        due("copies(4)", x.copies(4), 1);

        x = start("example 2");
        due("hold(3)", x.hold(3), 0);
        due("addCard(1)", x.addCard(1), 0);
        due("deck(6)", x.deck(6), 3);
        due("answer(0)", x.answer(0), 1);
        due("addCard(1)", x.addCard(1), 0);
        due("addCard(0)", x.addCard(0), 0);
        due("deck(4)", x.deck(4), 2);
        due("card(0, 3)", x.card(0, 3), 2);
        due("deck(6)", x.deck(6), 1);
        due("answer(0)", x.answer(0), 3);
        due("deck(7)", x.deck(7), 3);
        due("accept(0)", x.accept(0), 2);
        due("told(1)", x.told(1), 2);

        x = start("example 3");
        due("become(63)", x.become(63), 0);
        due("keepDeck()", x.keepDeck(), 4);
        due("card(0, 0)", x.card(0, 0), 7);
        due("card(0, 2)", x.card(0, 2), 4);
        due("dropCard(0)", x.dropCard(0), 3);
        due("deck(3)", x.deck(3), 1);
        due("deck(6)", x.deck(6), 1);
        due("missing(0)", x.missing(0), 7);
        due("counted(2)", x.counted(2), -9);
        due("undo()", x.undo(), 2);
        due("counted(2)", x.counted(2), 4);
        due("edge(0, 0, 1)", x.edge(0, 0, 1), -1);
    }

    private static void promise1NewObject() {
        GraphDeck x = start("1 a new object");
        due("BAD", BAD, -1);
        due("STATE", STATE, -2);
        due("FULL", FULL, -3);
        due("NONE", NONE, -9);
        due("told(0)", x.told(0), 4);
        due("told(1)", x.told(1), 0);
        due("told(2)", x.told(2), 0);
        due("told(9)", x.told(9), 0);
        due("undo()", x.undo(), STATE);
        due("deck(0)", x.deck(0), 4);
        due("deck(1)", x.deck(1), 0);
        due("deck(3)", x.deck(3), 4);
        GraphDeck y = new GraphDeck();
        y.begin(7);
        due("told(0) beside another object", x.told(0), 4);
    }

    private static void promise2Begin() {
        GraphDeck x = start("2 begin");
        x.edge(0, 1, 1);
        due("begin(8)", x.begin(8), 4);
        due("told(0)", x.told(0), 8);
        due("told(1)", x.told(1), 0);
        due("begin(1)", x.begin(1), 8);
        due("begin(2)", x.begin(2), 1);
        x.edge(0, 1, 1);
        due("begin(2)", x.begin(2), 2);
        due("told(1)", x.told(1), 0);
        due("told(9)", x.told(9), 6);
        due("begin(0)", x.begin(0), BAD);
        due("begin(9)", x.begin(9), BAD);
        for (int n : FAR) {
            due("begin(" + n + ")", x.begin(n), BAD);
        }
        due("told(9)", x.told(9), 6);
        due("undo()", x.undo(), 5);
        due("told(1)", x.told(1), 1);
    }

    private static void promise3Edge() {
        GraphDeck x = start("3 edge");
        due("edge(3, 1, 1)", x.edge(3, 1, 1), 0);
        due("edge(1, 3, 1)", x.edge(1, 3, 1), 1);
        due("vertex(1, 1)", x.vertex(1, 1), 8);
        due("vertex(3, 1)", x.vertex(3, 1), 2);
        due("told(9)", x.told(9), 2);
        due("edge(1, 3, 0)", x.edge(1, 3, 0), 1);
        due("edge(3, 1, 0)", x.edge(3, 1, 0), 0);
        due("told(2)", x.told(2), 0);
        due("told(9)", x.told(9), 4);
        due("edge(2, 2, 1)", x.edge(2, 2, 1), BAD);
        due("edge(4, 0, 1)", x.edge(4, 0, 1), BAD);
        due("edge(0, 4, 1)", x.edge(0, 4, 1), BAD);
        due("edge(0, 1, 2)", x.edge(0, 1, 2), BAD);
        for (int far : FAR) {
            due("edge(" + far + ", 0, 1)", x.edge(far, 0, 1), BAD);
            due("edge(0, " + far + ", 1)", x.edge(0, far, 1), BAD);
            due("edge(0, 1, " + far + ")", x.edge(0, 1, far), BAD);
        }
        due("told(9)", x.told(9), 4);
        // Each pair has its own digit, in the order (0,1), (0,2), (1,2), (0,3), (1,3), (2,3).
        int digit = 32;
        for (int v = 1; v < 4; v++) {
            for (int u = 0; u < v; u++) {
                x.become(0);
                x.edge(u, v, 1);
                due("told(2) with the edge " + u + " " + v, x.told(2), digit);
                digit /= 2;
            }
        }
        x.begin(1);
        due("edge(0, 0, 1)", x.edge(0, 0, 1), BAD);
    }

    private static void promise4Become() {
        GraphDeck x = start("4 become");
        due("become(63)", x.become(63), 0);
        due("become(32)", x.become(32), 63);
        due("vertex(0, 1)", x.vertex(0, 1), 2);
        due("become(1)", x.become(1), 32);
        due("vertex(2, 1)", x.vertex(2, 1), 8);
        due("become(64)", x.become(64), BAD);
        due("told(9)", x.told(9), 3);
        for (int far : FAR) {
            due("become(" + far + ")", x.become(far), BAD);
        }
        due("told(2)", x.told(2), 1);
        int[] limits = {1, 2, 8, 64, 1024, 32768, 2097152, 268435456};
        for (int n = 1; n <= 8; n++) {
            x.begin(n);
            due("become(" + limits[n - 1] + ")", x.become(limits[n - 1]), BAD);
            due("become(" + (limits[n - 1] - 1) + ")", x.become(limits[n - 1] - 1), 0);
            due("told(1)", x.told(1), n * (n - 1) / 2);
            due("told(2)", x.told(2), limits[n - 1] - 1);
        }
    }

    private static void promise5Undo() {
        GraphDeck x = start("5 undo");
        due("undo()", x.undo(), STATE);
        x.edge(0, 1, 1);
        String before = state(x);
        due("begin(6)", x.begin(6), 4);
        due("undo()", x.undo(), 1);
        same("after begin", state(x), before);
        x.edge(0, 2, 1);
        due("undo()", x.undo(), 1);
        same("after edge", state(x), before);
        x.become(63);
        due("undo()", x.undo(), 1);
        same("after become", state(x), before);
        x.keepDeck();
        String kept = state(x);
        x.hold(5);
        due("undo()", x.undo(), 2);
        same("after hold", state(x), kept);
        x.dropCard(3);
        String dropped = state(x);
        x.addCard(7);
        due("undo()", x.undo(), 3);
        same("after addCard", state(x), dropped);
        due("undo()", x.undo(), 2);
        same("after dropCard", state(x), kept);
        x.accept(0);
        due("undo()", x.undo(), 2);
        same("after accept", state(x), kept);
        due("undo()", x.undo(), 1);
        same("after keepDeck", state(x), before);
        due("undo()", x.undo(), 0);
        due("told(1)", x.told(1), 0);
        due("undo()", x.undo(), STATE);
    }

    private static void historyOfEightStates() {
        GraphDeck x = start("a history of 8 states");
        for (int i = 1; i <= 20; i++) {
            x.become(i);
            due("told(9)", x.told(9), Math.min(i, 8));
        }
        for (int i = 7; i >= 0; i--) {
            due("undo()", x.undo(), i);
            due("told(2)", x.told(2), 12 + i);
            due("told(9)", x.told(9), i);
        }
        due("undo()", x.undo(), STATE);
        due("told(2)", x.told(2), 12);
        x.become(5);
        due("undo()", x.undo(), 0);
        due("told(2)", x.told(2), 12);
    }

    private static void promise6Told() {
        GraphDeck x = start("6 told");
        due("told(-1)", x.told(-1), BAD);
        due("told(10)", x.told(10), BAD);
        for (int far : FAR) {
            due("told(" + far + ")", x.told(far), BAD);
        }
        told("6 told, one vertex", x, 1, 0, new int[] {1, 0, 0, 0, 1, 1, 0, 1, 0});
        told("6 told, two vertices", x, 2, 0, new int[] {2, 0, 0, 0, 2, 1, 1, 2, 0});
        told("6 told, an edge", x, 2, 1, new int[] {2, 1, 1, 1, 2, 1, 1, 1, 0});
        // Vertex 0 of this star is its center; the smallest code has it last.
        told("6 told, a star", x, 4, 52, new int[] {4, 3, 52, 7, 6, 2, 2, 1, 0});
        told("6 told, a path", x, 4, 41, new int[] {4, 3, 41, 13, 2, 2, 2, 1, 0});
        told("6 told, two edges", x, 4, 33, new int[] {4, 2, 33, 12, 8, 1, 1, 2, 0});
        told("6 told, no edges", x, 8, 0, new int[] {8, 0, 0, 0, 40320, 1, 1, 8, 0});
        told("6 told, all edges", x, 8, (1 << 28) - 1, new int[] {8, 28, (1 << 28) - 1, (1 << 28) - 1, 40320, 1, 1, 1, 0});
        x = graph("6 told, a cycle of 5", 5, 0, 1, 1, 2, 2, 3, 3, 4, 4, 0);
        due("told(4)", x.told(4), 10);
        due("told(5)", x.told(5), 1);
        due("told(6)", x.told(6), 1);
        due("told(7)", x.told(7), 1);
        x = graph("6 told, a triangle, an edge and two vertices", 7, 4, 6, 0, 5, 4, 2, 2, 6);
        due("told(4)", x.told(4), 6 * 2 * 2);
        due("told(5)", x.told(5), 3);
        due("told(6)", x.told(6), 3);
        due("told(7)", x.told(7), 4);
        due("told(9)", x.told(9), 5);
    }

    private static void told(String name, GraphDeck x, int n, int code, int[] wants) {
        part = name;
        x.begin(n);
        x.become(code);
        for (int what = 0; what < wants.length; what++) {
            due("told(" + what + ")", x.told(what), wants[what]);
        }
    }

    private static void promise6PseudoSimilar() {
        // A triangle 0 1 2, an edge to a triangle 3 4 5, and a tail 6 7 at 5. Without
        // 2, and without 5, there are left an edge and a triangle with a tail of two.
        GraphDeck x = graph("6 and 7, pseudo-similar vertices", 8,
            0, 1, 1, 2, 0, 2, 2, 3, 3, 4, 3, 5, 4, 5, 5, 6, 6, 7);
        due("told(4)", x.told(4), 2);
        due("told(5)", x.told(5), 7);
        due("told(6)", x.told(6), 6);
        due("told(8)", x.told(8), 1);
        due("vertex(2, 5)", x.vertex(2, 5), 32);
        due("vertex(5, 5)", x.vertex(5, 5), 4);
        due("vertex(5, 2)", x.vertex(5, 2), x.vertex(2, 2));
        due("vertex(2, 4)", x.vertex(2, 4), 0);
        due("vertex(0, 4)", x.vertex(0, 4), 2);
        due("vertex(0, 5)", x.vertex(0, 5), 0);
        due("vertex(3, 5)", x.vertex(3, 5), 0);
        due("image(2, 5, 0)", x.image(2, 5, 0), NONE);
    }

    private static void promise7Vertex() {
        GraphDeck x = graph("7 vertex", 5, 0, 1, 1, 2, 2, 0, 2, 3);
        // The cards: without 0 or 1 a path of 3 and a vertex; without 2 an edge
        // and two vertices; without 3 a triangle and a vertex; without 4 the paw.
        int[][] wants = {
            {2, 6, 3, 2, 2, 0},
            {2, 5, 3, 2, 1, 0},
            {3, 11, 1, 1, 0, 0},
            {1, 4, 11, 3, 0, 0},
            {0, 0, 15, 4, 0, 0}};
        for (int v = 0; v < 5; v++) {
            for (int what = 0; what < 6; what++) {
                due("vertex(" + v + ", " + what + ")", x.vertex(v, what), wants[v][what]);
            }
        }
        due("vertex(5, 0)", x.vertex(5, 0), BAD);
        due("vertex(0, 6)", x.vertex(0, 6), BAD);
        due("vertex(-1, 0)", x.vertex(-1, 0), BAD);
        due("vertex(0, -1)", x.vertex(0, -1), BAD);
        for (int far : FAR) {
            due("vertex(" + far + ", 0)", x.vertex(far, 0), BAD);
            due("vertex(0, " + far + ")", x.vertex(0, far), BAD);
        }
        x = graph("7 vertex, one vertex", 1);
        due("vertex(0, 0)", x.vertex(0, 0), 0);
        due("vertex(0, 1)", x.vertex(0, 1), 0);
        for (int what = 2; what <= 5; what++) {
            due("vertex(0, " + what + ")", x.vertex(0, what), NONE);
        }
        due("vertex(0, 6)", x.vertex(0, 6), BAD);
        due("vertex(1, 2)", x.vertex(1, 2), BAD);
        x = graph("7 vertex, two vertices", 2, 0, 1);
        due("vertex(0, 2)", x.vertex(0, 2), 0);
        due("vertex(0, 3)", x.vertex(0, 3), 0);
        due("vertex(0, 4)", x.vertex(0, 4), 2);
        due("vertex(1, 4)", x.vertex(1, 4), 1);
    }

    private static void promise8Image() {
        GraphDeck x = graph("8 image, a cycle of 6", 6, 0, 1, 1, 2, 2, 3, 3, 4, 4, 5, 5, 0);
        // Both turns and mirrors map 0 to 2; the smaller list is the mirror 2 1 0 5 4 3.
        int[] mirror = {2, 1, 0, 5, 4, 3};
        // Of those that map 4 to 1, the lists are 3 4 5 0 1 2 and 5 4 3 2 1 0.
        int[] turn = {3, 4, 5, 0, 1, 2};
        for (int i = 0; i < 6; i++) {
            due("image(0, 2, " + i + ")", x.image(0, 2, i), mirror[i]);
            due("image(4, 1, " + i + ")", x.image(4, 1, i), turn[i]);
            due("image(3, 3, " + i + ")", x.image(3, 3, i), i);
        }
        due("image(6, 0, 0)", x.image(6, 0, 0), BAD);
        due("image(0, 6, 0)", x.image(0, 6, 0), BAD);
        due("image(0, 0, 6)", x.image(0, 0, 6), BAD);
        for (int far : FAR) {
            due("image(" + far + ", 0, 0)", x.image(far, 0, 0), BAD);
            due("image(0, " + far + ", 0)", x.image(0, far, 0), BAD);
            due("image(0, 0, " + far + ")", x.image(0, 0, far), BAD);
        }
        x = graph("8 image, a star", 4, 0, 1, 0, 2, 0, 3);
        due("image(0, 1, 0)", x.image(0, 1, 0), NONE);
        due("image(0, 1, 4)", x.image(0, 1, 4), BAD);
        due("image(1, 3, 2)", x.image(1, 3, 2), 1);
        due("image(1, 3, 3)", x.image(1, 3, 3), 2);
        due("image(3, 1, 1)", x.image(3, 1, 1), 2);
        due("image(3, 1, 2)", x.image(3, 1, 2), 3);
        x = graph("8 image, one vertex", 1);
        due("image(0, 0, 0)", x.image(0, 0, 0), 0);
    }

    private static void copies(String name, GraphDeck x, int... wants) {
        part = name;
        for (int pattern = 0; pattern < 9; pattern++) {
            due("copies(" + pattern + ")", x.copies(pattern), wants[pattern]);
        }
    }

    private static void promise9Copies() {
        GraphDeck x = start("9 copies");
        copies("9 copies, no edges", x, 0, 0, 0, 0, 0, 0, 0, 0, 0);
        x.become(63);
        copies("9 copies, four adjacent vertices", x, 6, 12, 4, 4, 12, 3, 12, 6, 1);
        x.become(62);
        copies("9 copies, two triangles", x, 5, 8, 2, 2, 6, 1, 4, 1, 0);
        x.begin(8);
        x.become((1 << 28) - 1);
        copies("9 copies, all edges", x, 28, 168, 56, 280, 840, 210, 840, 420, 70);
        x = graph("9 copies", 7, 0, 1, 1, 2, 2, 3, 3, 4, 4, 5, 5, 6, 6, 0);
        copies("9 copies, a cycle of 7", x, 7, 7, 0, 0, 7, 0, 0, 0, 0);
        x = graph("9 copies", 6, 0, 1, 1, 2, 2, 0, 2, 3, 3, 4, 3, 5);
        copies("9 copies, a triangle with a tree", x, 6, 8, 1, 2, 6, 0, 1, 0, 0);
        x.begin(1);
        copies("9 copies, one vertex", x, 0, 0, 0, 0, 0, 0, 0, 0, 0);
        due("copies(9)", x.copies(9), BAD);
        for (int far : FAR) {
            due("copies(" + far + ")", x.copies(far), BAD);
        }
    }

    private static void promise10Hold() {
        GraphDeck x = start("10 hold");
        x.addCard(7);
        x.addCard(0);
        due("hold(6)", x.hold(6), 2);
        due("deck(0)", x.deck(0), 6);
        due("deck(1)", x.deck(1), 0);
        due("hold(3)", x.hold(3), 0);
        due("deck(0)", x.deck(0), 3);
        due("told(9)", x.told(9), 4);
        due("hold(2)", x.hold(2), BAD);
        due("hold(7)", x.hold(7), BAD);
        for (int far : FAR) {
            due("hold(" + far + ")", x.hold(far), BAD);
        }
        due("deck(0)", x.deck(0), 3);
        due("told(9)", x.told(9), 4);
        due("told(0)", x.told(0), 4);
    }

    private static void promise11KeepDeck() {
        GraphDeck x = start("11 keepDeck");
        int[] wants = {STATE, STATE, 3, 4, 5, 6, STATE, STATE};
        for (int n = 1; n <= 8; n++) {
            x.begin(n);
            int changes = x.told(9);
            due("keepDeck() with " + n + " vertices", x.keepDeck(), wants[n - 1]);
            due("told(9)", x.told(9), Math.min(8, changes + (wants[n - 1] > 0 ? 1 : 0)));
        }
        due("deck(0)", x.deck(0), 6);
        x = graph("11 keepDeck, a paw", 4, 0, 1, 1, 2, 2, 0, 2, 3);
        due("keepDeck()", x.keepDeck(), 4);
        int[] codes = {1, 3, 3, 7};
        for (int k = 0; k < 4; k++) {
            due("card(" + k + ", 0)", x.card(k, 0), codes[k]);
        }
        due("deck(8)", x.deck(8), 1);
        due("told(2)", x.told(2), 57);
    }

    private static void promise12AddCard() {
        GraphDeck x = start("12 addCard");
        due("addCard(7)", x.addCard(7), 0);
        due("addCard(4)", x.addCard(4), 0);
        due("card(0, 0)", x.card(0, 0), 1);
        due("addCard(5)", x.addCard(5), 1);
        due("card(1, 0)", x.card(1, 0), 3);
        due("told(9)", x.told(9), 3);
        due("addCard(8)", x.addCard(8), BAD);
        due("addCard(7)", x.addCard(7), 2);
        due("card(3, 0)", x.card(3, 0), 7);
        due("told(9)", x.told(9), 4);
        due("addCard(0)", x.addCard(0), FULL);
        due("addCard(8)", x.addCard(8), BAD);
        for (int far : FAR) {
            due("addCard(" + far + ")", x.addCard(far), BAD);
        }
        due("told(9)", x.told(9), 4);
        int[] limits = {2, 8, 64, 1024};
        for (int h = 3; h <= 6; h++) {
            x.hold(h);
            due("addCard(" + limits[h - 3] + ")", x.addCard(limits[h - 3]), BAD);
            for (int k = 0; k < h; k++) {
                due("addCard(" + (limits[h - 3] - 1) + ")", x.addCard(limits[h - 3] - 1), 0);
            }
            due("addCard(0)", x.addCard(0), FULL);
            due("card(0, 0)", x.card(0, 0), limits[h - 3] - 1);
        }
    }

    private static void promise13DropCard() {
        GraphDeck x = cards("13 dropCard", 4, 0, 1, 3, 7);
        due("dropCard(4)", x.dropCard(4), BAD);
        due("dropCard(1)", x.dropCard(1), 3);
        due("card(0, 0)", x.card(0, 0), 0);
        due("card(1, 0)", x.card(1, 0), 3);
        due("card(2, 0)", x.card(2, 0), 7);
        due("card(3, 0)", x.card(3, 0), BAD);
        due("dropCard(3)", x.dropCard(3), BAD);
        due("dropCard(2)", x.dropCard(2), 2);
        due("dropCard(0)", x.dropCard(0), 1);
        due("card(0, 0)", x.card(0, 0), 3);
        for (int far : FAR) {
            due("dropCard(" + far + ")", x.dropCard(far), BAD);
        }
        due("dropCard(0)", x.dropCard(0), 0);
        due("dropCard(0)", x.dropCard(0), BAD);
        due("deck(0)", x.deck(0), 4);
        due("told(9)", x.told(9), 8);
    }

    private static void promise14Card() {
        GraphDeck x = cards("14 card", 4, 7, 1, 3, 5);
        int[][] wants = {{1, 1, 1, 3}, {3, 2, 2, 2}, {3, 2, 2, 2}, {7, 3, 1, 1}};
        for (int k = 0; k < 4; k++) {
            for (int what = 0; what < 4; what++) {
                due("card(" + k + ", " + what + ")", x.card(k, what), wants[k][what]);
            }
        }
        due("card(0, 5)", x.card(0, 5), BAD);
        due("card(4, 0)", x.card(4, 0), BAD);
        for (int far : FAR) {
            due("card(" + far + ", 0)", x.card(far, 0), BAD);
            due("card(0, " + far + ")", x.card(0, far), BAD);
        }
        x.dropCard(0);
        due("card(0, 3) with a lost card", x.card(0, 3), NONE);
        x = cards("14 card, not divisible", 4, 0, 0, 0, 1);
        due("card(0, 3)", x.card(0, 3), NONE);
        x = cards("14 card, degrees out of range", 4, 0, 0, 1, 7);
        due("card(0, 3)", x.card(0, 3), 2);
        due("card(3, 3)", x.card(3, 3), -1);
        x = cards("14 card, answers without it", 3, 0, 1, 1);
        // With two edges: a path and a triangle; with one: an edge with a vertex and a path.
        due("card(0, 4)", x.card(0, 4), 2);
        due("card(1, 4)", x.card(1, 4), 2);
        x = cards("14 card, no other card", 3, 1);
        due("card(0, 4)", x.card(0, 4), NONE);
        due("card(1, 4)", x.card(1, 4), BAD);
        x = cards("14 card, no answer", 4, 1, 1, 7, 7);
        due("card(0, 4)", x.card(0, 4), 0);
        x = start("14 card, no card");
        due("card(0, 0)", x.card(0, 0), BAD);
    }

    private static void promise15Deck() {
        GraphDeck x = start("15 deck, no card");
        int[] none = {4, 0, 0, 4, NONE, NONE, STATE, STATE, 0, BAD};
        for (int what = 0; what < none.length; what++) {
            due("deck(" + what + ")", x.deck(what), none[what]);
        }
        for (int far : FAR) {
            due("deck(" + far + ")", x.deck(far), BAD);
        }
        x.hold(6);
        due("deck(7) with H = 6 and no card", x.deck(7), STATE);
        x = graph("15 deck, a paw", 4, 0, 1, 1, 2, 2, 0, 2, 3);
        x.keepDeck();
        int[] paw = {4, 4, 3, 0, 4, 0, 1};
        for (int what = 0; what < paw.length; what++) {
            due("deck(" + what + ")", x.deck(what), paw[what]);
        }
        due("deck(8)", x.deck(8), 1);
        x.become(60);
        due("deck(8) with another paw", x.deck(8), 1);
        x.edge(0, 3, 1);
        x.become(41);
        due("deck(8) with a path", x.deck(8), 0);
        x.undo();
        x.undo();
        x.undo();
        due("deck(8) again", x.deck(8), 1);
        x.dropCard(0);
        due("deck(1)", x.deck(1), 3);
        due("deck(3)", x.deck(3), 1);
        due("deck(4)", x.deck(4), NONE);
        due("deck(5)", x.deck(5), NONE);
        due("deck(8) with a lost card", x.deck(8), 0);
        x.undo();
        x.begin(5);
        due("deck(8) with more vertices", x.deck(8), 0);
        x = cards("15 deck, some cards of a larger deck", 3, 0, 0, 0);
        due("deck(8)", x.deck(8), 0);
        x.begin(3);
        due("deck(8) with 3 vertices", x.deck(8), 1);
        x = start("15 deck, a graph without cards");
        x.begin(1);
        due("deck(8)", x.deck(8), 0);
        // The fourth vertex has from 0 to 3 edges.
        x = cards("15 deck, a card without edges", 4, 0);
        due("deck(6)", x.deck(6), 4);
    }

    private static void promise15Tests() {
        GraphDeck x = cards("15, test 1", 4, 0, 0, 0, 1);
        due("deck(4)", x.deck(4), NONE);
        due("deck(5)", x.deck(5), 1);
        due("deck(6)", x.deck(6), 0);
        x = cards("15, test 2, below 0", 4, 0, 0, 1, 7);
        due("deck(4)", x.deck(4), 2);
        due("deck(5)", x.deck(5), 2);
        x = cards("15, test 2, above H - 1", 4, 0, 7, 7, 3);
        due("deck(4)", x.deck(4), 4);
        due("deck(5)", x.deck(5), 2);
        x = cards("15, test 3", 4, 1, 1, 7, 7);
        due("deck(4)", x.deck(4), 4);
        due("deck(5)", x.deck(5), 3);
        due("deck(6)", x.deck(6), 0);
        x = cards("15, test 2, H = 5", 5, 63, 63, 63, 63, 0);
        due("deck(4)", x.deck(4), 8);
        due("deck(5)", x.deck(5), 2);
        x = cards("15, test 1, H = 6", 6, 7, 7, 7, 7, 7, 7);
        due("deck(4)", x.deck(4), NONE);
        due("deck(5)", x.deck(5), 1);
        // The degrees of a cycle of 5, but each card is a star.
        x = cards("15, all tests are passed, but there is no answer", 5, 7, 7, 7, 7, 7);
        due("deck(4)", x.deck(4), 5);
        due("deck(5)", x.deck(5), 0);
        due("deck(6)", x.deck(6), 0);
    }

    private static void promise15Enough() {
        GraphDeck x = start("15, enough cards, all edges");
        x.become(63);
        x.keepDeck();
        due("deck(7)", x.deck(7), 3);
        x.dropCard(0);
        due("deck(7) with a lost card", x.deck(7), 3);
        x.dropCard(0);
        due("deck(6)", x.deck(6), 2);
        due("deck(7) with two answers", x.deck(7), NONE);
        x = cards("15, enough cards, no answer", 4, 1, 1, 7, 7);
        due("deck(7)", x.deck(7), NONE);
        x = graph("15, enough cards, a cycle of 5", 5, 0, 1, 1, 2, 2, 3, 3, 4, 4, 0);
        x.keepDeck();
        due("deck(6)", x.deck(6), 1);
        due("deck(7)", x.deck(7), 3);
        x = graph("15, enough cards, H = 6", 6, 0, 1);
        x.keepDeck();
        due("deck(6)", x.deck(6), 1);
        due("deck(7)", x.deck(7), NONE);
    }

    private static void promise16Counted() {
        GraphDeck x = start("16 counted, all edges");
        x.begin(6);
        x.become(32767);
        x.keepDeck();
        int[] wants = {15, 60, 20, 60, 180, 45, 180, 90, 15};
        for (int pattern = 0; pattern < 9; pattern++) {
            due("counted(" + pattern + ")", x.counted(pattern), wants[pattern]);
        }
        due("counted(9)", x.counted(9), BAD);
        for (int far : FAR) {
            due("counted(" + far + ")", x.counted(far), BAD);
        }
        x.dropCard(5);
        due("counted(0) with a lost card", x.counted(0), NONE);
        due("counted(9) with a lost card", x.counted(9), BAD);
        x = start("16 counted, no smaller pattern");
        x.become(63);
        x.keepDeck();
        for (int pattern = 3; pattern < 9; pattern++) {
            due("counted(" + pattern + ") with H = 4", x.counted(pattern), NONE);
        }
        due("counted(1) with H = 4", x.counted(1), 12);
        x = cards("16 counted, H = 3", 3, 1, 1, 0);
        due("counted(0)", x.counted(0), 2);
        due("counted(1)", x.counted(1), NONE);
        due("counted(2)", x.counted(2), NONE);
        // Counting goes on where there is no answer, and where other sums are not divisible.
        x = cards("16 counted, no answer", 4, 1, 1, 7, 7);
        due("counted(0)", x.counted(0), 4);
        due("counted(1)", x.counted(1), 6);
        due("counted(2)", x.counted(2), 2);
        x = cards("16 counted, not divisible", 4, 0, 0, 0, 3);
        due("counted(0)", x.counted(0), 1);
        due("counted(1)", x.counted(1), 1);
        x.dropCard(3);
        x.addCard(7);
        due("counted(0)", x.counted(0), NONE);
        due("counted(1)", x.counted(1), 3);
        due("counted(2)", x.counted(2), 1);
    }

    private static void promise17Answer() {
        GraphDeck x = start("17 answer");
        due("answer(0)", x.answer(0), STATE);
        due("answer(-1)", x.answer(-1), BAD);
        due("answer(MIN)", x.answer(Integer.MIN_VALUE), BAD);
        x = cards("17 answer", 4, 0);
        int[] wants = {0, 1, 3, 7};
        for (int k = 0; k < 4; k++) {
            due("answer(" + k + ")", x.answer(k), wants[k]);
        }
        due("answer(4)", x.answer(4), NONE);
        due("answer(MAX)", x.answer(Integer.MAX_VALUE), NONE);
        due("answer(-1)", x.answer(-1), BAD);
        x.addCard(0);
        // The path of 3 with a vertex and the star have only one such card.
        due("deck(6)", x.deck(6), 2);
        due("answer(1)", x.answer(1), 1);
        due("answer(2)", x.answer(2), NONE);
        x = cards("17 answer, no answer", 4, 1, 1, 7, 7);
        due("answer(0)", x.answer(0), NONE);
        due("told(9)", x.told(9), 5);
    }

    private static void promise18Missing() {
        GraphDeck x = start("18 missing");
        due("missing(0)", x.missing(0), STATE);
        due("missing(-1)", x.missing(-1), BAD);
        due("missing(MIN)", x.missing(Integer.MIN_VALUE), BAD);
        x = cards("18 missing, cards of a diamond", 4, 7, 3, 3);
        due("deck(6)", x.deck(6), 2);
        due("missing(0) with two answers", x.missing(0), NONE);
        x.addCard(7);
        due("deck(6)", x.deck(6), 1);
        due("answer(0)", x.answer(0), 31);
        due("missing(0) with no lost card", x.missing(0), NONE);
        due("missing(-1)", x.missing(-1), BAD);
        x.dropCard(0);
        due("deck(6)", x.deck(6), 1);
        due("missing(0)", x.missing(0), 3);
        due("missing(1)", x.missing(1), NONE);
        due("missing(MAX)", x.missing(Integer.MAX_VALUE), NONE);
        // Only four adjacent vertices and one more have three cards with a triangle and a vertex.
        x = cards("18 missing, two cards are lost", 5, 11, 11, 11);
        due("deck(6)", x.deck(6), 1);
        due("missing(0)", x.missing(0), 11);
        due("missing(1)", x.missing(1), 63);
        due("missing(2)", x.missing(2), NONE);
        x = cards("18 missing, no answer", 4, 1, 1, 7, 7);
        due("missing(0)", x.missing(0), NONE);
    }

    private static void promise19Accept() {
        GraphDeck x = start("19 accept");
        due("accept(0) with no card", x.accept(0), BAD);
        due("told(9)", x.told(9), 0);
        x = cards("19 accept", 3, 1);
        due("accept(3)", x.accept(3), BAD);
        for (int far : FAR) {
            due("accept(" + far + ")", x.accept(far), BAD);
        }
        due("told(9)", x.told(9), 2);
        due("accept(1)", x.accept(1), 2);
        due("told(0)", x.told(0), 3);
        due("told(2)", x.told(2), 3);
        due("told(9)", x.told(9), 3);
        due("deck(1)", x.deck(1), 1);
        due("accept(2)", x.accept(2), 3);
        due("told(2)", x.told(2), 7);
        due("undo()", x.undo(), 3);
        due("told(2)", x.told(2), 3);
        due("undo()", x.undo(), 2);
        due("told(0)", x.told(0), 4);
        x = cards("19 accept, no answer", 4, 1, 1, 7, 7);
        due("accept(0)", x.accept(0), BAD);
    }

    private static void errorsChangeNothing() {
        GraphDeck x = graph("errors change nothing", 7, 0, 1, 2, 3);
        x.hold(3);
        x.addCard(0);
        x.addCard(1);
        x.addCard(1);
        String before = state(x);
        int changes = x.told(9);
        int[] errors = {x.begin(0), x.edge(0, 7, 1), x.become(1 << 21), x.told(10), x.vertex(7, 0), x.image(0, 0, 7),
            x.copies(9), x.hold(7), x.addCard(2), x.dropCard(3), x.card(3, 0), x.deck(9), x.counted(9),
            x.answer(-1), x.missing(-1), x.accept(1)};
        for (int error : errors) {
            due("a wrong call", error, BAD);
        }
        due("keepDeck()", x.keepDeck(), STATE);
        due("addCard(1)", x.addCard(1), FULL);
        same("the state", state(x), before);
        due("told(9)", x.told(9), changes);
        due("undo()", x.undo(), changes - 1);
        due("deck(1)", x.deck(1), 2);
        for (int left = changes - 2; left >= 0; left--) {
            due("undo()", x.undo(), left);
        }
        before = state(x);
        due("undo()", x.undo(), STATE);
        same("the state", state(x), before);
    }
}
