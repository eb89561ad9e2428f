import java.io.IOException;
import java.io.UncheckedIOException;
import java.nio.charset.StandardCharsets;
import java.nio.file.Files;
import java.nio.file.Paths;
import java.util.ArrayList;
import java.util.LinkedHashMap;
import java.util.LinkedHashSet;
import java.util.List;
import java.util.Map;
import java.util.Set;
import java.util.regex.Matcher;
import java.util.regex.Pattern;

/**
 * Runs of calls, written as in the document's examples, each under the sentence
 * of the document that it tests: "edge(0, 1, 1) = 0; told(2) = 32". A call
 * without "=" may answer anything. Every run begins with a new object.
 */
final class Sentences {
    static final String[] FAR = {"MIN", "-268435456", "-9", "-3", "-2", "268435456", "MAX"};

    private static final String DOCUMENT = "../shared/DOC.md";
    private static final int MOST_CALLS = 512;
    private static final Pattern CALL = Pattern.compile("(\\w+)\\(([^)]*)\\)(?: = (-?\\w+))?");
    // The document's numbers, not those of the class, which could be wrong.
    private static final Map<String, Integer> NUMBERS = Map.of("BAD", -1, "STATE", -2, "FULL", -3, "NONE", -9,
        "MIN", Integer.MIN_VALUE, "MAX", Integer.MAX_VALUE);

    private static final Map<String, String> SECTIONS = readSections();
    private static final Map<String, List<String>> QUOTES = new LinkedHashMap<>();
    private static final Set<String> TESTED = new LinkedHashSet<>();
    private static final Set<String> WRONG = new LinkedHashSet<>();
    private static final List<String> FAULTS = new ArrayList<>();
    private static String current = "";
    private static String only = "";
    private static boolean untested = false;
    private static int answers = 0;

    private Sentences() {
    }

    // ---- the document

    private static Map<String, String> readSections() {
        String text;
        try {
            text = new String(Files.readAllBytes(Paths.get(DOCUMENT)), StandardCharsets.UTF_8);
        } catch (IOException e) {
            throw new UncheckedIOException(e);
        }
        Map<String, String> sections = new LinkedHashMap<>();
        for (String part : text.split("(?m)^## ")) {
            String[] pieces = part.split("\n", 2);
            // A promise is named by its number alone; its signature is the face's, which Language tests.
            String name = pieces[0].replaceAll(":.*", "");
            String body = pieces[1].replaceAll("(?m)^`.*`$", "").replaceAll("(?m)^---- .*$", "");
            sections.put(name, oneLine(body));
        }
        return sections;
    }

    private static String oneLine(String text) {
        return text.replaceAll("\\s+", " ").trim();
    }

    static String section(String name) {
        return SECTIONS.getOrDefault(name, "");
    }

    /** Begins the test of a sentence, or of a part of one. */
    static void says(String section, String sentence) {
        endSentence();
        current = name(section, sentence);
        untested = true;
        TESTED.add(current);
        quote(section, sentence);
    }

    /** From now on, only the runs of sentences whose names begin so are made. */
    static void only(String start) {
        only = start;
    }

    private static boolean isLeftOut() {
        untested = false;
        return !current.startsWith(only);
    }

    private static void endSentence() {
        if (untested) {
            fault("there is no test");
        }
        untested = false;
    }

    static void says(int promise, String sentence) {
        says("Promise " + promise, sentence);
    }

    /** A sentence that says nothing that a call could answer. */
    static void tellsOnly(String section, String sentence) {
        endSentence();
        current = name(section, sentence);
        quote(section, sentence);
    }

    static String name(String section, String sentence) {
        return section + ", \"" + sentence + "\"";
    }

    private static void quote(String section, String sentence) {
        QUOTES.computeIfAbsent(section, s -> new ArrayList<>()).add(sentence);
        if (!section(section).contains(oneLine(sentence))) {
            fault("the document does not say this");
        }
    }

    /** Every word of these sections must stand in a sentence that a test has named. */
    static void nothingIsLeftOut() {
        endSentence();
        for (String section : SECTIONS.keySet()) {
            if (section.equals("Description") || section.startsWith("Promise ")) {
                current = section;
                String rest = section(section);
                List<String> quotes = new ArrayList<>(QUOTES.getOrDefault(section, List.of()));
                quotes.sort((a, b) -> b.length() - a.length());
                for (String quote : quotes) {
                    rest = rest.replaceFirst(Pattern.quote(oneLine(quote)), "|");
                }
                if (Pattern.compile("\\w").matcher(rest).find()) {
                    fault("no test names: " + rest.replaceAll("[-| ]*\\|[-| ]*", " | "));
                }
            }
        }
    }

    // ---- runs

    static void run(String calls) {
        if (isLeftOut()) {
            return;
        }
        GraphDeck x = new GraphDeck();
        List<String> made = new ArrayList<>();
        for (String text : calls.split(";")) {
            if (text.isBlank()) {
                continue;
            }
            Matcher call = CALL.matcher(text.trim());
            if (!call.matches() || made.size() == MOST_CALLS) {
                throw new IllegalArgumentException("no call, or one too many: " + text);
            }
            String head = call.group(1) + "(" + call.group(2) + ")";
            String got = answerOf(x, call.group(1), call.group(2));
            made.add(head + " = " + got);
            answers++;
            if (call.group(3) != null && !got.equals("" + number(call.group(3)))) {
                fault(head + " answered " + got + ", due is " + call.group(3) + ", in " + latest(made));
                return;
            }
        }
    }

    /** The calls on a new object; then one that returns an error code must leave all as if it had not been made. */
    static void unchanged(String calls, String wrongCall, String error) {
        if (isLeftOut()) {
            return;
        }
        run(calls + "; " + wrongCall + " = " + error);
        String without = everything(calls);
        String with = everything(calls + "; " + wrongCall);
        if (!without.equals(with)) {
            fault(wrongCall + " changed something after " + calls + ":\n    " + without + "\n    " + with);
        }
    }

    /** The answers of all questions, and those of the states that undo brings back, one after another. */
    private static String everything(String calls) {
        GraphDeck x = new GraphDeck();
        for (String text : calls.split(";")) {
            Matcher call = CALL.matcher(text.trim());
            if (call.matches()) {
                answerOf(x, call.group(1), call.group(2));
            }
        }
        StringBuilder all = new StringBuilder();
        ask(all, x, "told", 10);
        ask(all, x, "copies", 9);
        ask(all, x, "deck", 9);
        ask(all, x, "counted", 9);
        ask(all, x, "answer", 4);
        ask(all, x, "missing", 4);
        for (int v = 0; v < x.told(0); v++) {
            ask(all, x, "vertex", v + ", ", 6);
        }
        for (int k = 0; k < x.deck(1); k++) {
            ask(all, x, "card", k + ", ", 5);
        }
        for (int states = 0; states <= 8; states++) {
            all.append(" undo ").append(answerOf(x, "undo", "")).append(": ");
            ask(all, x, "told", 3);
            ask(all, x, "deck", 2);
            for (int k = 0; k < x.deck(1); k++) {
                ask(all, x, "card", k + ", ", 1);
            }
        }
        return all.toString();
    }

    private static void ask(StringBuilder all, GraphDeck x, String method, int many) {
        ask(all, x, method, "", many);
    }

    private static void ask(StringBuilder all, GraphDeck x, String method, String before, int many) {
        for (int i = 0; i < many; i++) {
            all.append(answerOf(x, method, before + i)).append(' ');
        }
    }

    private static String latest(List<String> made) {
        int from = Math.max(0, made.size() - 14);
        return (from == 0 ? "" : ".. ") + String.join("; ", made.subList(from, made.size()));
    }

    private static int number(String text) {
        Integer known = NUMBERS.get(text.trim());
        return known != null ? known : Integer.parseInt(text.trim());
    }

    private static String answerOf(GraphDeck x, String method, String arguments) {
        String[] texts = arguments.isBlank() ? new String[0] : arguments.split(",");
        int[] a = new int[texts.length];
        for (int i = 0; i < a.length; i++) {
            a[i] = number(texts[i]);
        }
        try {
            return "" + call(x, method + a.length, a);
        } catch (RuntimeException | StackOverflowError e) {
            return e.toString();
        }
    }

    private static int call(GraphDeck x, String method, int[] a) {
        switch (method) {
            case "begin1": return x.begin(a[0]);
            case "edge3": return x.edge(a[0], a[1], a[2]);
            case "become1": return x.become(a[0]);
            case "undo0": return x.undo();
            case "told1": return x.told(a[0]);
            case "vertex2": return x.vertex(a[0], a[1]);
            case "image3": return x.image(a[0], a[1], a[2]);
            case "copies1": return x.copies(a[0]);
            case "hold1": return x.hold(a[0]);
            case "keepDeck0": return x.keepDeck();
            case "addCard1": return x.addCard(a[0]);
            case "dropCard1": return x.dropCard(a[0]);
            case "card2": return x.card(a[0], a[1]);
            case "deck1": return x.deck(a[0]);
            case "counted1": return x.counted(a[0]);
            case "answer1": return x.answer(a[0]);
            case "missing1": return x.missing(a[0]);
            case "accept1": return x.accept(a[0]);
            default: throw new AssertionError("no such call: " + method);
        }
    }

    // ---- texts of calls

    /** A new graph with these edges. */
    static String graph(int n, int... ends) {
        StringBuilder calls = new StringBuilder("begin(" + n + ")");
        for (int i = 0; i + 1 < ends.length; i += 2) {
            calls.append("; edge(").append(ends[i]).append(", ").append(ends[i + 1]).append(", 1) = 0");
        }
        return calls + "; ";
    }

    /** A new held deck with these cards. */
    static String cards(int h, int... codes) {
        StringBuilder calls = new StringBuilder("hold(" + h + ")");
        for (int code : codes) {
            calls.append("; addCard(").append(code).append(")");
        }
        return calls + "; deck(1) = " + codes.length + "; ";
    }

    /** The answers of a call for 0, 1, 2 and so on; "%" stands for the number. */
    static String list(String call, int... wants) {
        StringBuilder calls = new StringBuilder();
        for (int i = 0; i < wants.length; i++) {
            calls.append(call.replace("%", "" + i)).append(" = ").append(wants[i]).append("; ");
        }
        return calls.toString();
    }

    /** A call with each of the far numbers in the place of "%". */
    static String far(String call, String want) {
        StringBuilder calls = new StringBuilder();
        for (String number : FAR) {
            calls.append(call.replace("%", number)).append(" = ").append(want).append("; ");
        }
        return calls.toString();
    }

    // ---- the end

    static void due(String what, int got, int want) {
        if (isLeftOut()) {
            return;
        }
        answers++;
        if (got != want) {
            fault(what + " is " + got + ", due is " + want);
        }
    }

    static void fault(String text) {
        WRONG.add(current);
        FAULTS.add(current + ": " + text);
    }

    /** The names of the sentences that have a test. */
    static Set<String> tested() {
        return TESTED;
    }

    /** The names of the sentences that do not hold. */
    static Set<String> wrong() {
        return WRONG;
    }

    static void end() {
        int sentences = 0;
        for (List<String> quotes : QUOTES.values()) {
            sentences += quotes.size();
        }
        for (String fault : FAULTS) {
            System.out.println(fault);
        }
        System.out.println(sentences + " sentences, " + answers + " answers, " + WRONG.size() + " sentences do not hold");
        if (!WRONG.isEmpty()) {
            System.exit(1);
        }
    }
}
