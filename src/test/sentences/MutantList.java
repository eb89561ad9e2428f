import java.util.ArrayList;
import java.util.List;

/** For the sentences of the document: what to write in the source, in the place of what, to break each of them. */
final class MutantList {
    /** The sentence may be told by its beginning. */
    record Mutant(String section, String sentence, String text, String other) {
        /** The beginning of the sentence's name in Sentences. */
        String name() {
            return section + ", \"" + sentence;
        }
    }

    private static final List<Mutant> ALL = new ArrayList<>();

    private MutantList() {
    }

    static List<Mutant> all() {
        if (!ALL.isEmpty()) {
            return ALL;
        }
        conventions();
        graphs();
        cards();
        patterns();
        heldDeck();
        counting();
        deckTests();
        changes();
        promises1To3();
        promises4And5();
        promise6();
        promises7To9();
        promises10And11();
        promises12And13();
        promise14();
        promise15();
        promises16To19();
        return ALL;
    }

    private static void breaks(String section, String sentence, String text, String other) {
        ALL.add(new Mutant(section, sentence, text, other));
    }

    private static void breaks(String sentence, String text, String other) {
        breaks("Description", sentence, text, other);
    }

    private static void breaks(int promise, String sentence, String text, String other) {
        breaks("Promise " + promise, sentence, text, other);
    }

    /** The head of a method and its first lines, as they stand in the source. */
    private static String head(String method, String... lines) {
        StringBuilder text = new StringBuilder("    public int " + method + " {\n");
        for (String line : lines) {
            text.append("        ").append(line).append("\n");
        }
        return text.toString();
    }

    private static void conventions() {
        breaks("What it is", "An object is used for at most 512 calls",
            "next = next + 1 & MOST_STATES - 1;", "next = Math.min(next + 1, 400);");
        breaks("The error codes are BAD (-1)", "BAD = -1", "BAD = -4");
        breaks("STATE (-2)", "STATE = -2", "STATE = -4");
        breaks("FULL (-3)", "FULL = -3", "FULL = -4");
        breaks("NONE (-9)", "NONE = -9", "NONE = -8");
        breaks("`BAD = -1, STATE = -2", "FULL = -3", "FULL = -4");
        String several = "If several of them apply";
        breaks(several, head("addCard(int code)"), head("addCard(int code)", "if (held.lost() == 0) {", "    return FULL;", "}"));
        for (String method : new String[] {"answer", "missing"}) {
            breaks(several, head(method + "(int k)"), head(method + "(int k)", "if (held.size() == 0) {", "    return STATE;",
            "}"));
        }
        for (String method : new String[] {"begin(int n)", "edge(int u, int v, int on)", "become(int code)", "hold(int h)",
            "keepDeck()", "addCard(int code)", "dropCard(int k)", "accept(int k)"}) {
            breaks("A call that returns one of them changes nothing.", head(method),
                head(method, "history.save(graph, held);", "int twice = 0;"));
        }
        breaks("A call that returns one of them changes nothing.", head("undo()"),
            head("undo()", "if (history.size() == 0) {", "    graph.load(FIRST_SIZE, 0);", "}"));
        String only = "it is returned only if no error code applies.";
        breaks(only, head("vertex(int v, int what)"),
            head("vertex(int v, int what)", "if (graph.size() == 1 && what != 0 && what != 1) {", "    return NONE;", "}"));
        breaks(only, head("image(int u, int v, int x)"), head("image(int u, int v, int x)",
            "if (graph.has(u) && graph.has(v) && !symmetry.find(graph, 0, u, v)) {", "    return NONE;", "}"));
        breaks(only, head("counted(int pattern)"),
            head("counted(int pattern)", "if (held.lost() != 0) {", "    return NONE;", "}"));
        breaks(only, "if ((what == 6 || what == 7) && held.size() == 0)",
            "if ((what == 6 || what == 7 && held.h() != MOST_HELD) && held.size() == 0)");
    }

    private static void graphs() {
        breaks("All graphs are undirected", "rows[v] = rows[v] & ~(1 << u) | on << u;", "");
        breaks("All graphs are undirected", "u == v || ", "");
        String vertices = "boolean has(int v) {\n            return v >= 0 && v < size;";
        breaks("A graph with N vertices has", vertices, "boolean has(int v) {\n            return v >= 0 && v <= size;");
        breaks("A graph with N vertices has", vertices, "boolean has(int v) {\n            return v > 0 && v < size;");
        breaks("The pairs of vertices u < v", "for (int v = 1; v < size; v++) {\n                for (int u = 0; u < v; u++) {\n"
            + "                    if (u != x",
            "for (int u = 0; u < size; u++) {\n                for (int v = u + 1; v < size; v++) {\n"
            + "                    if (u != x");
        breaks("The code of a graph with N vertices",
            "for (int v = size - 1; v > 0; v--) {\n                for (int u = v - 1; u >= 0; u--) {",
            "for (int v = 1; v < size; v++) {\n                for (int u = 0; u < v; u++) {");
        breaks("The code of a graph with one vertex", "int codeWithout(int x) {\n            int code = 0;",
            "int codeWithout(int x) {\n            int code = size == 1 ? 1 : 0;");
        breaks("The code of a graph with one vertex", "private int bestCode() {\n            int code = 0;",
            "private int bestCode() {\n            int code = graph.size() == 1 ? 1 : 0;");
        breaks("A numbering of a graph", "(tried & c.lowerTwins[v]) == 0", "tried == 0");
        breaks("Two graphs are isomorphic", "return knownCodes[slot];", "return Integer.bitCount(code);");
        breaks("The canonical code of a graph", "return knownCodes[slot];", "return code;");
        breaks("The canonical code of a graph", "column < least", "(least == UNKNOWN || column > least)");
        breaks("An automorphism is", "number *= reached;\n            }\n            return number;",
            "number *= reached;\n            }\n            return number - 1;");
        breaks("The workshop has one graph", "MOST_VERTICES = 8", "MOST_VERTICES = 7");
        breaks("The workshop has one graph", "if (n < 1 ||", "if (n < 2 ||");
        breaks("It has 4 vertices and no edges at first.", "FIRST_SIZE = 4", "FIRST_SIZE = 3");
        breaks("It has 4 vertices and no edges at first.", "public GraphDeck() {",
            "public GraphDeck() {\n        graph.load(4, 1);");
    }

    private static void cards() {
        breaks("The card of a vertex v", "if (what >= 2 && graph.size() == 1)", "if (what >= 2 && graph.size() <= 2)");
        breaks("The card of a vertex v", "if (u != x && v != x)", "if (u != x || v == 0)");
        breaks("where the vertices above v", "if (u != x && v != x)", "if (u != x)");
        breaks("Cards are told by their canonical codes.", "return canon.of(graph.size() - 1, graph.codeWithout(v));",
            "return graph.codeWithout(v);");
        breaks("Cards are told by their canonical codes.", "held.put(canon.of(held.h() - 1, code))", "held.put(code)");
        String put = "int put(int code) {\n            int at = 0;\n            while (at < size && codes[at] < code) {";
        breaks("The deck of a graph are the cards", put,
            "int put(int code) {\n            int at = 0;\n            while (at < size && codes[at] > code) {");
        breaks("They are numbered from 0", put, "int put(int code) {\n            int at = 0;\n            while (at < size) {");
        breaks("cards with the same code occur as often", "put(canon.of(g.size() - 1, g.codeWithout(v)));",
            "if (howOften(canon.of(g.size() - 1, g.codeWithout(v))) == 0) {\n"
                + "                    put(canon.of(g.size() - 1, g.codeWithout(v)));\n                }");
        breaks("Two different vertices u and v are similar", "if (u != v && find(g, 0, v, u))", "if (find(g, 0, v, u))");
        breaks("They are pseudo-similar", " && !symmetry.find(graph, 0, u, v)", "");
        breaks("They are pseudo-similar", "cardCode(u) == code && !symmetry.find(graph, 0, u, v)",
            "!symmetry.find(graph, 0, u, v)");
    }

    private static void patterns() {
        breaks("There are nine patterns", "{2, 3, 3, 4, 4, 4, 4, 4, 4}", "{2, 3, 3, 4, 4, 4, 4, 4}");
        breaks("There are nine patterns", "{2, 3, 3, 4, 4, 4, 4, 4, 4}", "{2, 3, 3, 4, 4, 4, 4, 4, 4, 4}");
        breaks("There are nine patterns", "{2, 3, 3, 4, 4, 4, 4, 4, 4}", "{2, 2, 3, 4, 4, 4, 4, 4, 4}");
        breaks("There are nine patterns", "{2, 3, 3, 4, 4, 4, 4, 4, 4}", "{2, 3, 3, 4, 4, 4, 4, 4, 5}");
        breaks("0 an edge;", "case 0: return g.edges();", "case 0: return g.edges() - 1;");
        breaks("1 a path with 3 vertices;", "sum += pairs(g.degree(v));", "sum += g.degree(v);");
        breaks("2 a triangle;", "return corners / 3;", "return corners;");
        breaks("3 a star with 3 leaves;", "(g.degree(v) - 2) / 3;", "(g.degree(v) - 2) / 2;");
        breaks("4 a path with 4 vertices;", "return sum - 3 * triangles(g);", "return sum;");
        breaks("5 a cycle with 4 vertices;", "return sum / 2;", "return sum;");
        breaks("6 a triangle with one more edge", "g.edgesWithin(g.row(v)) * (g.degree(v) - 2)",
            "g.edgesWithin(g.row(v)) * g.degree(v)");
        breaks("7 two triangles with a common edge;", "sum += g.link(u, v) * pairs(", "sum += pairs(");
        breaks("8 four vertices that are all adjacent.", "return seen / 6;", "return seen / 3;");
        breaks("A copy of a pattern in a graph", "return sum / 2;", "return Math.min(1, sum / 2);");
        breaks("(The graph can have more edges", "sum += pairs(g.degree(v));\n            }\n            return sum;",
            "sum += pairs(g.degree(v));\n            }\n            return sum - 3 * triangles(g);");
    }

    private static void heldDeck() {
        for (String other : new String[] {"2", "4"}) {
            breaks("The workshop holds a deck", "LEAST_HELD = 3", "LEAST_HELD = " + other);
        }
        for (String other : new String[] {"5", "7"}) {
            breaks("The workshop holds a deck", "MOST_HELD = 6", "MOST_HELD = " + other);
        }
        breaks("and at most H cards,", "if (held.lost() == 0) {", "if (held.lost() < 0) {");
        breaks("and at most H cards,", "if (held.lost() == 0) {", "if (held.lost() <= 1) {");
        breaks("which are graphs with H - 1 vertices;", "isCode(held.h() - 1, code)", "isCode(held.h(), code)");
        breaks("which are graphs with H - 1 vertices;", "isCode(held.h() - 1, code)", "isCode(held.h() - 2, code)");
        breaks("cards with the same code can occur", "if (size < MOST_VERTICES) {",
            "if (size < MOST_VERTICES && (at == size || codes[at] != code)) {");
        breaks("They are numbered from 0", "boolean has(int k) {\n            return k >= 0",
            "boolean has(int k) {\n            return k > 0");
        breaks("At first H is 4", "FIRST_SIZE = 4", "FIRST_SIZE = 5");
        breaks("At first H is 4", "public GraphDeck() {", "public GraphDeck() {\n        held.put(0);");
        breaks("If it has less than H cards", "return h - size;", "return 0;");
        breaks("If it has less than H cards", "return h - size;", "return Math.max(0, h - 1 - size);");
        breaks("A graph with H vertices is an answer", "howOften(code) < other.howOften(code)", "howOften(code) == 0");
        breaks("A graph with H vertices is an answer", "howOften(code) < other.howOften(code)",
            "howOften(code) != other.howOften(code)");
        breaks("answers are told by their canonical codes", "boolean known = at < size && codes[at] == code;",
            "boolean known = false;");
        breaks("answers are told by their canonical codes", "keep(canon.of(chosen.h(), code));", "keep(code);");
        breaks("If no card is lost, an answer has exactly", "howOften(code) < other.howOften(code)", "howOften(code) == 0");
    }

    private static void counting() {
        String withAnswer = "answers.find(held, held.everyCard(), canon) == 0 ? NONE : ";
        breaks("If no card is lost, numbers of an answer", "case 4: return counting.edges(held);",
            "case 4: return " + withAnswer + "counting.edges(held);");
        breaks("If no card is lost, numbers of an answer", "case 3: return counting.degree(held, k);",
            "case 3: return " + withAnswer + "counting.degree(held, k);");
        breaks("If no card is lost, numbers of an answer", "counting.patterns(held, pattern) : BAD",
            "(" + withAnswer + "counting.patterns(held, pattern)) : BAD");
        breaks("Each edge of a graph with H vertices", "held.h() - Patterns.vertices(pattern);", "held.h() - 2;");
        breaks("Each edge of a graph with H vertices", "held.h() - Patterns.vertices(pattern);",
            "held.h() - Patterns.vertices(pattern) + 1;");
        breaks("So the number of edges M", "sum % shares == 0 ? sum / shares : NONE", "sum % shares == 0 ? sum : NONE");
        breaks("So the number of edges M", "sum % shares == 0 ? sum / shares : NONE", "sum / shares");
        breaks("the number of copies of a pattern with k vertices", "shares <= 0", "shares <= 1");
        breaks("the number of copies of a pattern with k vertices", "shares <= 0", "shares < 0");
        breaks("and the vertex that is not in a card", "edges == NONE ? NONE : edges - ", "edges == NONE ? NONE : edges + ");
    }

    private static void deckTests() {
        breaks("The held deck passes these tests", "if (!areInRange(held.h())) {\n                return 2;\n            }\n"
            + "            return hasGraph(held.h()) ? 0 : 3;",
            "if (!hasGraph(held.h())) {\n                return 3;\n            }\n"
            + "            return areInRange(held.h()) ? 0 : 2;");
        breaks("1 the sum of the numbers of edges", "return 1;\n            }\n            sortDegrees",
            "return 0;\n            }\n            sortDegrees");
        breaks("1 the sum of the numbers of edges", "sum % shares == 0 ? sum / shares : NONE",
            "sum % 2 == 0 ? sum / shares : NONE");
        for (String other : new String[] {"degrees[k] < 0", "degrees[k] > h - 1", "degrees[k] < 1 || degrees[k] > h - 1",
            "degrees[k] < 0 || degrees[k] > h - 2", "degrees[k] < -1 || degrees[k] > h - 1",
            "degrees[k] < 0 || degrees[k] > h"}) {
            breaks("2 all degrees lie between", "degrees[k] < 0 || degrees[k] > h - 1", other);
        }
        for (String other : new String[] {"first >= most", "first > most + 1", "k != 1 && first > most", "k != 2 && first > most",
            "k != 3 && first > most", "k != 4 && first > most"}) {
            breaks("3 there is a graph with H vertices", "if (first > most)", "if (" + other + ")");
        }
        breaks("3 there is a graph with H vertices", "while (at > 0 && degrees[at - 1] < degree)", "while (at > MOST_HELD)");
        breaks("3 there is a graph with H vertices", "Math.min(degrees[i], k)", "degrees[i]");
        breaks("3 there is a graph with H vertices", "Math.min(degrees[i], k)", "k");
    }

    private static void changes() {
        String save = "history.save(graph, held);";
        String[][] changes = {{"2", "graph.load(n, 0);"}, {"3", "graph.setLink(u, v, on);"}, {"4", "graph.load(graph.size(), code);"},
            {"10", "held.start(h);"}, {"11", "held.fill(graph, canon);"}, {"12", "return held.put("}, {"13", "held.removeAt(k);"},
            {"19", "graph.load(held.h(), "}};
        for (String[] change : changes) {
            breaks("begin, edge, become, hold, keepDeck", save + "\n        " + change[1], change[1]);
            breaks(Integer.parseInt(change[0]), "This is a change.", save + "\n        " + change[1], change[1]);
            if (!change[1].startsWith("return") && change[1].endsWith(";")) {
                breaks("a change that returns no error code records", save + "\n        " + change[1], change[1] + "\n        " + save);
            }
        }
        breaks("begin, edge, become, hold, keepDeck", "history.restore(graph, held);\n        return history.size();",
            "history.restore(graph, held);\n        history.save(graph, held);\n        return history.size();");
        breaks("A history of at most 8 states", "MOST_STATES = 8", "MOST_STATES = 16");
        breaks("A history of at most 8 states", "Math.min(size + 1, MOST_STATES)", "Math.min(size + 1, MOST_STATES - 1)");
        breaks("A history of at most 8 states", "Math.min(size + 1, MOST_STATES)", "size + 1");
        breaks("a change that returns no error code records", "state[1] = graph.code();", "state[1] = 0;");
        breaks("a change that returns no error code records", "state[0] = graph.size();", "state[0] = held.h();");
        breaks("a change that returns no error code records", "state[2] = held.h();", "state[2] = graph.size();");
        breaks("a change that returns no error code records", "state[3] = held.size();", "state[3] = Math.min(2, held.size());");
        breaks("if there are more than 8, the oldest", "int[] state = states[next & MOST_STATES - 1];",
            "if (size == MOST_STATES) {\n                return;\n            }\n            int[] state = states[next & MOST_STATES - 1];");
        breaks("undo() removes the latest state", "next = next - 1 & MOST_STATES - 1;\n            int[] state = states[next];",
            "int[] state = states[next - 1 & MOST_STATES - 1];");
        breaks("undo() removes the latest state", "size--;\n            next = next - 1 & MOST_STATES - 1;",
            "size--;\n            next = next - 1 - size & MOST_STATES - 1;");
        breaks("1. A path and its one symmetry", "FIRST_SIZE = 4", "FIRST_SIZE = 5");
        breaks("2. Cards that are added", "howOften(code) < other.howOften(code)", "howOften(code) == 0");
        breaks("3. A lost card that is found again", "held.lost() != 0 || shares", "shares");
    }

    private static void promises1To3() {
        breaks(1, "Creates a workshop with a graph of 4 vertices", "private int size = FIRST_SIZE;", "private int size = 5;");
        breaks(1, "and a held deck with H = 4", "private int h = FIRST_SIZE;", "private int h = 3;");
        breaks(1, "nothing can be undone.", "private int size;\n        private int next;",
            "private int size = 1;\n        private int next;");
        breaks(1, "nothing can be undone.", "public GraphDeck() {", "public GraphDeck() {\n        history.save(graph, held);");
        breaks(2, "Begins a new graph without edges.", "graph.load(n, 0);",
            "graph.load(n, n == graph.size() ? graph.code() : 0);");
        breaks(2, "Begins a new graph without edges.", "rows[v] = 0;", "rows[v] |= 0;");
        breaks(2, "Begins a new graph without edges.", "graph.load(n, 0);", "graph.load(n, 0);\n        held.start(held.h());");
        breaks(2, "`n`: the number of vertices", "if (n < 1 ||", "if (n < 2 ||");
        breaks(2, "`n`: the number of vertices", "n > MOST_VERTICES) {\n            return BAD;",
            "n >= MOST_VERTICES) {\n            return BAD;");
        breaks(2, "Returns the previous number", "int before = graph.size();", "int before = n;");
        breaks(2, "BAD if n is out of range.", "if (n < 1 ||", "if (n < 0 ||");
        breaks(2, "BAD if n is out of range.", "n > MOST_VERTICES) {\n            return BAD;",
            "n > MOST_VERTICES + 1) {\n            return BAD;");
        breaks(3, "Makes two vertices adjacent", "rows[u] = rows[u] & ~(1 << v) | on << v;", "rows[u] = rows[u] | on << v;");
        breaks(3, "Makes two vertices adjacent", "rows[u] = rows[u] & ~(1 << v) | on << v;", "rows[u] = on << v;");
        breaks(3, "This is a change.", "history.save(graph, held);\n        graph.setLink", "if (before != on) {\n"
            + "            history.save(graph, held);\n        }\n        graph.setLink");
        breaks(3, "`u`: a vertex", "!graph.has(u) || !graph.has(v) || u == v",
            "u > v || !graph.has(u) || !graph.has(v) || u == v");
        breaks(3, "`v`: another vertex", "!graph.has(u) || !graph.has(v) || u == v",
            "v > u || !graph.has(u) || !graph.has(v) || u == v");
        breaks(3, "`on`: 1 adjacent", "graph.setLink(u, v, on);", "graph.setLink(u, v, 1 - on);");
        breaks(3, "Returns 1 if they were adjacent", "int before = graph.link(u, v);", "int before = on;");
        breaks(3, "Returns 1 if they were adjacent", "int before = graph.link(u, v);", "int before = graph.row(u) & 1 << v;");
        breaks(3, "BAD if there is no such vertex,", "!graph.has(u) || !graph.has(v) || u == v", "!graph.has(v) || u == v");
        breaks(3, "BAD if there is no such vertex,", "!graph.has(u) || !graph.has(v) || u == v", "!graph.has(u) || u == v");
        breaks(3, "both are the same,", "u == v || ", "");
        breaks(3, "or on is out of range.", "on < 0 || on > 1", "on > 1");
        breaks(3, "or on is out of range.", "on < 0 || on > 1", "on < 0");
        breaks(3, "or on is out of range.", "on < 0 || on > 1", "on < 0 || on > 2");
    }

    private static void promises4And5() {
        breaks(4, "Replaces the edges", "graph.load(graph.size(), code);", "graph.load(graph.size(), code | graph.code());");
        breaks(4, "the number of vertices stays.", "graph.load(graph.size(), code);", "graph.load(FIRST_SIZE, code);");
        breaks(4, "This is a change.", "history.save(graph, held);\n        graph.load(graph.size(), code);",
            "if (before != code) {\n"
            + "            history.save(graph, held);\n        }\n        graph.load(graph.size(), code);");
        breaks(4, "`code`: the code of the new graph", "graph.load(graph.size(), code);",
            "graph.load(graph.size(), canon.of(graph.size(), code));");
        breaks(4, "Returns the previous code;", "int before = graph.code();", "int before = code;");
        breaks(4, "Returns the previous code;", "int before = graph.code();",
            "int before = canon.of(graph.size(), graph.code());");
        breaks(4, "BAD if code is negative,", "return code >= 0 && code", "return code");
        breaks(4, "or 2 to the power of", "code < 1 << size * (size - 1) / 2", "code <= 1 << size * (size - 1) / 2");
        breaks(4, "or 2 to the power of", "code < 1 << size * (size - 1) / 2", "code < (1 << size * (size - 1) / 2) - 1");
        breaks(4, "or 2 to the power of", "code < 1 << size * (size - 1) / 2",
            "code < 1 << MOST_VERTICES * (MOST_VERTICES - 1) / 2");
        breaks(5, "Undoes a change", "held.start(state[2]);", "held.start(held.h());");
        breaks(5, "Undoes a change", "graph.load(state[0], state[1]);", "");
        String undone = "history.restore(graph, held);\n        return history.size();";
        breaks(5, "Returns how many changes", undone, "history.restore(graph, held);\n        return history.size() + 1;");
        breaks(5, "Returns how many changes", undone, "history.restore(graph, held);\n        return 0;");
        breaks(5, "STATE if there is none.", "if (history.size() == 0) {\n            return STATE;",
            "if (history.size() == 0) {\n            return 0;");
        breaks(5, "STATE if there is none.", "if (history.size() == 0) {\n            return STATE;",
            "if (history.size() <= 1) {\n            return STATE;");
    }

    private static void promise6() {
        breaks(6, "Returns a number of the graph.", "case 0: return graph.size();", "case 0: return held.h();");
        breaks(6, "`what`: 0 vertices;", "case 0: return graph.size();", "case 0: return FIRST_SIZE;");
        breaks(6, "1 edges;", "case 1: return graph.edges();", "case 1: return graph.edges() % 28;");
        breaks(6, "2 its code;", "case 2: return graph.code();", "case 2: return canon.of(graph.size(), graph.code());");
        breaks(6, "3 its canonical code;", "case 3: return canon.of(graph.size(), graph.code());",
            "case 3: return graph.code();");
        breaks(6, "4 automorphisms;", "number *= reached;", "number += reached;");
        breaks(6, "4 automorphisms;", "number *= reached;", "number *= Math.min(reached, 7);");
        breaks(6, "5 classes of similar vertices", "number++;\n                    unseen &= ~similarTo(g, v);",
            "number += similarTo(g, v) == 0 ? 0 : 1;\n                    unseen &= ~similarTo(g, v);");
        breaks(6, "6 different cards", "private int differentCards() {\n        if (graph.size() == 1) {\n            return 0;",
            "private int differentCards() {\n        if (graph.size() == 1) {\n            return 1;");
        breaks(6, "6 different cards", "scratch.fill(graph, canon);\n        return scratch.different();",
            "scratch.fill(graph, canon);\n        return symmetry.classes(graph);");
        breaks(6, "7 components;", "for (int steps = 1; steps < size; steps++)", "for (int steps = 2; steps < size; steps++)");
        breaks(6, "7 components;", "found++;", "found += rows[v] == 0 ? 0 : 1;");
        breaks(6, "8 pairs of pseudo-similar vertices;", "return ends / 2;\n    }\n\n    private int answersWithout",
            "return ends;\n    }\n\n    private int answersWithout");
        breaks(6, "8 pairs of pseudo-similar vertices;",
            "private int pseudoSimilarPairs() {\n        if (graph.size() == 1) {\n            return 0;",
            "private int pseudoSimilarPairs() {\n        if (graph.size() == 1) {\n            return NONE;");
        breaks(6, "9 changes that can be undone", "case 9: return history.size();",
            "case 9: return Math.min(7, history.size());");
        String last = "case 9: return history.size();\n            default: return BAD;";
        breaks(6, "Returns the number; BAD if what", last, "case 9: return history.size();\n            default: return NONE;");
        breaks(6, "Returns the number; BAD if what", last, "default: return history.size();");
    }

    private static void promises7To9() {
        breaks(7, "Returns a property of a vertex.", "case 1: return graph.row(v);", "case 1: return 0;");
        breaks(7, "`v`: the vertex", "case 0: return graph.degree(v);", "case 0: return graph.degree(0);");
        breaks(7, "`what`: 0 its degree;", "case 0: return graph.degree(v);", "case 0: return graph.degree(v) % 7;");
        breaks(7, "1 the set of the vertices adjacent", "case 1: return graph.row(v);", "case 1: return graph.row(v) & 127;");
        breaks(7, "2 the canonical code of its card;", "case 2: return cardCode(v);", "case 2: return graph.codeWithout(v);");
        breaks(7, "3 the number of edges of its card;", "case 3: return graph.edges() - graph.degree(v);",
            "case 3: return graph.edges();");
        breaks(7, "4 the set of the vertices that are similar", "case 4: return symmetry.similarTo(graph, v);",
            "case 4: return symmetry.similarTo(graph, v) | 1 << v;");
        breaks(7, "4 the set of the vertices that are similar", "case 4: return symmetry.similarTo(graph, v);",
            "case 4: return symmetry.similarTo(graph, v) | pseudoSimilarTo(v);");
        breaks(7, "5 the set of the vertices that are pseudo-similar", "default: return pseudoSimilarTo(v);",
            "default: return pseudoSimilarTo(v) | symmetry.similarTo(graph, v);");
        breaks(7, "5 the set of the vertices that are pseudo-similar", "default: return pseudoSimilarTo(v);",
            "default: return 0;");
        breaks(7, "Returns the property; BAD if there is no such vertex", "if (!graph.has(v) || what < 0", "if (what < 0");
        breaks(7, "or what is out of range;", "what < 0 || what > 5", "what > 5");
        breaks(7, "or what is out of range;", "what < 0 || what > 5", "what < 0");
        breaks(7, "or what is out of range;", "what < 0 || what > 5", "what < 0 || what > 6");
        for (String other : new String[] {"what >= 1 && graph.size() == 1", "what >= 3 && graph.size() == 1",
            "what >= 2 && what < 5 && graph.size() == 1", "what >= 2 && graph.size() <= 2", "what >= 2 && graph.size() == 0"}) {
            breaks(7, "NONE for 2 to 5 if N is 1.", "what >= 2 && graph.size() == 1", other);
        }
        breaks(8, "Returns the image of a vertex", "symmetry.find(graph, 0, u, v) ?", "symmetry.find(graph, 0, 0, 0) ?");
        breaks(8, "of all such automorphisms p", "for (int y = 0; y < g.size(); y++)", "for (int y = g.size() - 1; y >= 0; y--)");
        breaks(8, "`u`: the one vertex", "symmetry.find(graph, 0, u, v) ?", "symmetry.find(graph, 0, 0, v) ?");
        breaks(8, "`v`: the other vertex, possibly the same", "symmetry.find(graph, 0, u, v) ?",
            "u != v && symmetry.find(graph, 0, u, v) ?");
        breaks(8, "`x`: the vertex whose image", "symmetry.imageOf(x)", "symmetry.imageOf(0)");
        breaks(8, "Returns its image; NONE", "symmetry.imageOf(x) : NONE", "symmetry.imageOf(x) : BAD");
        for (String other : new String[] {"!graph.has(v) || !graph.has(x)", "!graph.has(u) || !graph.has(x)", "!graph.has(u) || !graph.has(v)"}) {
            breaks(8, "BAD if there is no such vertex.", "!graph.has(u) || !graph.has(v) || !graph.has(x)", other);
        }
        breaks(9, "Counts copies of a pattern in the graph.", "Patterns.count(graph, pattern) : BAD",
            "counting.patterns(held, pattern) : BAD");
        breaks(9, "`pattern`: the pattern, 0 to 8", "case 8: return tetrahedra(g);", "");
        breaks(9, "Returns the number of its copies;", "return seen / 6;", "return Math.min(1, seen / 6);");
        breaks(9, "BAD if pattern is out of range.", "pattern >= 0 && pattern < VERTICES.length", "pattern < VERTICES.length");
        breaks(9, "BAD if pattern is out of range.", "pattern >= 0 && pattern < VERTICES.length",
            "pattern >= 0 && pattern <= VERTICES.length");
    }

    private static void promises10And11() {
        breaks(10, "Begins a new held deck without cards.", "held.start(h);",
            "if (h != held.h()) {\n            held.start(h);\n        }");
        breaks(10, "`h`: the new H, 3 to 6", "h < LEAST_HELD ||", "h <= LEAST_HELD ||");
        breaks(10, "`h`: the new H, 3 to 6", "h > MOST_HELD)", "h >= MOST_HELD)");
        breaks(10, "Returns the number of cards that were held;", "int before = held.size();", "int before = held.lost();");
        breaks(10, "BAD if h is out of range.", "h < LEAST_HELD ||", "h < LEAST_HELD - 1 ||");
        breaks(10, "BAD if h is out of range.", "h > MOST_HELD)", "h > MOST_HELD + 1)");
        breaks(11, "Makes the deck of the graph the held one.", "held.fill(graph, canon);",
            "held.fill(graph, canon);\n        held.removeAt(3);\n        held.put(0);");
        breaks(11, "Returns the number of its cards;", "held.fill(graph, canon);\n        return held.size();",
            "held.fill(graph, canon);\n        return held.different();");
        for (String other : new String[] {"graph.size() < LEAST_HELD - 1", "graph.size() <= LEAST_HELD"}) {
            breaks(11, "STATE if N is not from 3 to 6.", "graph.size() < LEAST_HELD", other);
        }
        for (String other : new String[] {"graph.size() > MOST_HELD + 1", "graph.size() >= MOST_HELD"}) {
            breaks(11, "STATE if N is not from 3 to 6.", "graph.size() > MOST_HELD", other);
        }
    }

    private static void promises12And13() {
        breaks(12, "Adds a card to the held deck.", "return held.put(", "held.start(held.h());\n        return held.put(");
        breaks(12, "`code`: the code of a graph with H - 1 vertices", "held.put(canon.of(held.h() - 1, code))", "held.put(code)");
        breaks(12, "Returns the number of the card then", "return held.put(canon.of(held.h() - 1, code));",
            "held.put(canon.of(held.h() - 1, code));\n        return held.size() - 1;");
        breaks(12, "(of several with the same code, the lowest one);",
            "while (at < size && codes[at] < code) {\n                at++;\n"
            + "            }\n            if",
            "while (at < size && codes[at] <= code) {\n                at++;\n            }\n            if");
        breaks(12, "BAD if code is negative,", "return code >= 0 && code", "return code");
        breaks(12, "or 2 to the power of", "isCode(held.h() - 1, code)", "isCode(held.h(), code)");
        breaks(12, "or 2 to the power of", "code < 1 << size * (size - 1) / 2", "code <= 1 << size * (size - 1) / 2");
        breaks(12, "FULL if H cards are held.", "if (held.lost() == 0) {", "if (held.lost() < 0) {");
        breaks(12, "FULL if H cards are held.", "if (held.lost() == 0) {", "if (held.lost() <= 1) {");
        breaks(12, "FULL if H cards are held.", "if (held.lost() == 0) {", "if (held.size() == MOST_HELD) {");
        breaks(13, "Removes a card from the held deck.", "held.removeAt(k);", "held.removeAt(held.size() - 1);");
        breaks(13, "Removes a card from the held deck.", "held.removeAt(k);", "held.removeAt(0);");
        breaks(13, "`k`: the card", "held.removeAt(k);", "held.removeAt(k % 5);");
        breaks(13, "Returns the number of cards that are left;", "held.removeAt(k);\n        return held.size();",
            "held.removeAt(k);\n        return held.lost();");
        String has = "boolean has(int k) {\n            return k >= 0 && k < size;";
        breaks(13, "BAD if there is no such card.", has, "boolean has(int k) {\n            return k >= 0 && k <= size;");
        breaks(13, "BAD if there is no such card.", has, "boolean has(int k) {\n            return k < size;");
        breaks(13, "BAD if there is no such card.", has, "boolean has(int k) {\n            return k >= 0 && k < h;");
    }

    private static void promise14() {
        breaks(14, "Returns a property of a held card.", "case 1: return Integer.bitCount(held.codeAt(k));",
            "case 1: return graph.edges();");
        breaks(14, "`k`: the card", "case 1: return Integer.bitCount(held.codeAt(k));",
            "case 1: return Integer.bitCount(held.codeAt(0));");
        breaks(14, "`what`: 0 its canonical code;", "held.put(canon.of(held.h() - 1, code))", "held.put(code)");
        breaks(14, "1 its number of edges;", "case 1: return Integer.bitCount(held.codeAt(k));",
            "case 1: return Integer.bitCount(held.codeAt(k)) % 10;");
        breaks(14, "2 how often a card with this code", "case 2: return held.howOften(held.codeAt(k));",
            "case 2: return Math.min(2, held.howOften(held.codeAt(k)));");
        breaks(14, "2 how often a card with this code", "case 2: return held.howOften(held.codeAt(k));",
            "case 2: return held.size();");
        breaks(14, "3 the degree of the vertex", "case 3: return counting.degree(held, k);",
            "case 3: return Math.max(0, counting.degree(held, k));");
        breaks(14, "3 the degree of the vertex", "case 3: return counting.degree(held, k);",
            "case 3: return Math.min(held.h() - 1, counting.degree(held, k));");
        breaks(14, "(NONE if a card is lost,", "held.lost() != 0 || shares", "shares");
        breaks(14, "or the first test is not passed);", "sum % shares == 0 ? sum / shares : NONE", "sum / shares");
        breaks(14, "or the first test is not passed);", "case 3: return counting.degree(held, k);",
            "case 3: return counting.firstFailed(held) != 0 ? NONE : counting.degree(held, k);");
        breaks(14, "4 how many answers there would be", "held.everyCard() & ~(1 << k)", "held.everyCard()");
        breaks(14, "4 how many answers there would be", "held.everyCard() & ~(1 << k)", "held.everyCard() >> 1");
        breaks(14, "(NONE if no other card is held)", "if (held.size() == 1) {", "if (held.size() == 0) {");
        breaks(14, "(NONE if no other card is held)", "if (held.size() == 1) {", "if (held.size() <= 2) {");
        breaks(14, "Returns the property; BAD if there is no such card",
            "public int card(int k, int what) {\n        if (!held.has(k)) {",
            "public int card(int k, int what) {\n        if (k < 0) {");
        breaks(14, "Returns the property; BAD if there is no such card",
            "public int card(int k, int what) {\n        if (!held.has(k)) {",
            "public int card(int k, int what) {\n        if (k >= held.size()) {");
        String last = "case 4: return answersWithout(k);\n            default: return BAD;";
        breaks(14, "or what is out of range.", last, "case 4: return answersWithout(k);\n            default: return NONE;");
        breaks(14, "or what is out of range.", last, "default: return answersWithout(k);");
    }

    private static void promise15() {
        breaks(15, "Returns a number of the held deck.", "case 0: return held.h();", "case 0: return graph.size();");
        breaks(15, "`what`: 0 H;", "case 0: return held.h();", "case 0: return FIRST_SIZE;");
        breaks(15, "1 cards;", "case 1: return held.size();", "case 1: return Math.min(3, held.size());");
        breaks(15, "2 different cards;", "case 2: return held.different();", "case 2: return held.size();");
        breaks(15, "2 different cards;", "if (k == 0 || codes[k]", "if (k != 0 && codes[k]");
        breaks(15, "3 lost cards;", "case 3: return held.lost();", "case 3: return MOST_HELD - held.size();");
        breaks(15, "4 the number of edges M by counting", "case 4: return counting.edges(held);",
            "case 4: return graph.edges();");
        breaks(15, "(NONE if a card is lost, or the first", "held.lost() != 0 || shares", "shares");
        breaks(15, "(NONE if a card is lost, or the first", "sum % shares == 0 ? sum / shares : NONE", "sum / shares");
        breaks(15, "5 the number of the first test", "return hasGraph(held.h()) ? 0 : 3;", "return 0;");
        breaks(15, "(0 if all are;", "case 5: return counting.firstFailed(held);",
            "case 5: return answers.find(held, held.everyCard(), canon) == 0 ? 3 : counting.firstFailed(held);");
        breaks(15, "(0 if all are;", "return hasGraph(held.h()) ? 0 : 3;", "return hasGraph(held.h()) ? NONE : 3;");
        breaks(15, "NONE if a card is lost);",
            "int firstFailed(Deck held) {\n            if (held.lost() != 0) {\n                return NONE;",
            "int firstFailed(Deck held) {\n            if (held.lost() != 0) {\n                return 0;");
        breaks(15, "6 the answers;", "case 6: return answers.find(held, held.everyCard(), canon);",
            "case 6: return Math.min(5, answers.find(held, held.everyCard(), canon));");
        breaks(15, "6 the answers;", "case 6: return answers.find(held, held.everyCard(), canon);",
            "case 6: return Math.max(1, answers.find(held, held.everyCard(), canon));");
        breaks(15, "7 the smallest number of held cards", "choice < held.everyCard(); choice++", "choice < 1 << many; choice++");
        breaks(15, "7 the smallest number of held cards", "for (int many = 1; many", "for (int many = 4; many");
        breaks(15, "7 the smallest number of held cards", "return held.size();\n    }\n\n    private boolean isDeckOfGraph",
            "return NONE;\n    }\n\n    private boolean isDeckOfGraph");
        breaks(15, "(NONE if there is not exactly one answer,",
            "held.everyCard(), canon) != 1) {\n            return NONE;\n        }\n        for",
            "held.everyCard(), canon) == 0) {\n            return NONE;\n        }\n        for");
        breaks(15, "(NONE if there is not exactly one answer,",
            "held.everyCard(), canon) != 1) {\n            return NONE;\n        }\n        for",
            "held.everyCard(), canon) > 1) {\n            return NONE;\n        }\n        for");
        breaks(15, "or H is 6);", "held.h() == MOST_HELD || ", "");
        breaks(15, "or H is 6);", "held.h() == MOST_HELD || ", "held.h() >= MOST_HELD - 1 || ");
        breaks(15, "8 whether the held deck is the deck", "graph.size() != held.h() || held.lost() != 0",
            "graph.size() != held.h()");
        breaks(15, "8 whether the held deck is the deck", "graph.size() != held.h() || held.lost() != 0", "held.lost() != 0");
        breaks(15, "8 whether the held deck is the deck", "return scratch.contains(held);", "return true;");
        breaks(15, "8 whether the held deck is the deck", "isDeckOfGraph() ? 1 : 0", "isDeckOfGraph() ? 1 : NONE");
        String last = "case 8: return isDeckOfGraph() ? 1 : 0;\n            default: return BAD;";
        breaks(15, "Returns the number; BAD if what", last, "case 8: return isDeckOfGraph() ? 1 : 0;\n            default: return NONE;");
        breaks(15, "Returns the number; BAD if what", last, "default: return isDeckOfGraph() ? 1 : 0;");
        breaks(15, "STATE for 6 and 7", "(what == 6 || what == 7) && held", "what == 6 && held");
        breaks(15, "STATE for 6 and 7", "(what == 6 || what == 7) && held", "what == 7 && held");
        breaks(15, "STATE for 6 and 7", "(what == 6 || what == 7) && held", "what >= 4 && held");
    }

    private static void promises16To19() {
        breaks(16, "Counts copies of a pattern in the unknown graph", "counting.patterns(held, pattern) : BAD",
            "Patterns.count(graph, pattern) : BAD");
        breaks(16, "`pattern`: the pattern, 0 to 8", "pattern >= 0 && pattern < VERTICES.length",
            "pattern > 0 && pattern < VERTICES.length");
        breaks(16, "Returns the number of copies;", "held.h() - Patterns.vertices(pattern);", "held.h() - 3;");
        breaks(16, "NONE if a card is lost,", "held.lost() != 0 || shares", "shares");
        breaks(16, "the pattern does not have less than H vertices,", "shares <= 0", "shares < 0");
        breaks(16, "the pattern does not have less than H vertices,", "shares <= 0", "shares <= 1");
        breaks(16, "or the sum is not divisible;", "sum % shares == 0 ? sum / shares : NONE", "sum / shares");
        breaks(16, "BAD if pattern is out of range.", "counting.patterns(held, pattern) : BAD",
            "counting.patterns(held, pattern) : NONE");
        breaks(17, "Returns an answer.", "? answers.codeAt(k) : NONE", "? graph.code() : NONE");
        breaks(17, "`k`: the index of the answer", "? answers.codeAt(k) : NONE", "? answers.codeAt(0) : NONE");
        breaks(17, "Returns its canonical code; NONE", "? answers.codeAt(k) : NONE", "? answers.codeAt(k) : BAD");
        String[] refused = {"if (k < 0) {", "    return BAD;", "}", "if (held.size() == 0) {", "    return STATE;", "}"};
        String[] negative = {"if (k < 0) {", "    return NONE;", "}", "if (held.size() == 0) {", "    return STATE;", "}"};
        String[] empty = {"if (k < 0) {", "    return BAD;", "}", "if (held.size() == 0) {", "    return NONE;", "}"};
        breaks(17, "BAD if k is negative;", head("answer(int k)", refused), head("answer(int k)", negative));
        breaks(17, "STATE if no card is held.", head("answer(int k)", refused), head("answer(int k)", empty));
        breaks(18, "Returns a card that is missing", "taken.codeAt(next) == codes[k]) {\n                    next++;",
            "taken.codeAt(next) == codes[k]) {\n                    next += 2;");
        breaks(18, "Returns a card that is missing", "return scratch.leftAfter(held, k);",
            "return k == 0 ? scratch.leftAfter(held, k) : NONE;");
        breaks(18, "`k`: the index of the card", "} else if (passed == index) {", "} else if (passed == 0) {");
        breaks(18, "Returns its canonical code; NONE if there are not so many,", "return scratch.leftAfter(held, k);",
            "return Math.max(0, scratch.leftAfter(held, k));");
        breaks(18, "or there is not exactly one answer;", "canon) != 1) {\n            return NONE;\n        }\n        answers",
            "canon) == 0) {\n            return NONE;\n        }\n        answers");
        breaks(18, "or there is not exactly one answer;", "canon) != 1) {\n            return NONE;\n        }\n        answers",
            "canon) > 1) {\n            return NONE;\n        }\n        answers");
        breaks(18, "BAD if k is negative;", head("missing(int k)", refused), head("missing(int k)", negative));
        breaks(18, "STATE if no card is held.", head("missing(int k)", refused), head("missing(int k)", empty));
        breaks(19, "Makes an answer the graph", "graph.load(held.h(), answers.codeAt(k));",
            "graph.load(graph.size(), answers.codeAt(k));");
        breaks(19, "Makes an answer the graph", "graph.load(held.h(), answers.codeAt(k));",
            "if (!isDeckOfGraph()) {\n            graph.load(held.h(), answers.codeAt(k));\n        }");
        breaks(19, "`k`: the index of the answer", "graph.load(held.h(), answers.codeAt(k));",
            "graph.load(held.h(), answers.codeAt(0));");
        breaks(19, "Returns the number of its edges;", "return graph.edges();\n    }\n\n    private static boolean isCode",
            "return graph.code();\n    }\n\n    private static boolean isCode");
        breaks(19, "BAD if there is no such answer", "if (k < 0 || held.size() == 0 || k >= answers",
            "if (held.size() == 0 || k >= answers");
        breaks(19, "BAD if there is no such answer", "k >= answers.find", "k > answers.find");
        breaks(19, "(also if no card is held).", "if (k < 0 || held.size() == 0 ||",
            "if (held.size() == 0) {\n            return STATE;\n        }\n        if (k < 0 ||");
    }
}
