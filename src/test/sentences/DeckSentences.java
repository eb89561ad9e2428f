/** The sentences of promises 10 to 19. */
final class DeckSentences {
    // The degrees that these cards tell fit to no graph.
    private static final String NO_ANSWER = Sentences.cards(4, 1, 1, 7, 7);

    private DeckSentences() {
    }

    static void test() {
        hold();
        keepDeck();
        addCard();
        addCardErrors();
        dropCard();
        card();
        cardErrors();
        deckSizes();
        deckCounting();
        deckAnswers();
        deckEnough();
        deckErrors();
        counted();
        answer();
        missing();
        accept();
    }

    private static void says(int promise, String sentence) {
        Sentences.says(promise, sentence);
    }

    private static void run(String calls) {
        Sentences.run(calls);
    }

    private static void hold() {
        says(10, "Begins a new held deck without cards.");
        run(Sentences.cards(4, 0, 1, 3, 7) + "hold(4) = 4; deck(0) = 4; deck(1) = 0; card(0, 0) = BAD; deck(3) = 4");
        run(Sentences.cards(6, 1023, 1023) + "hold(3) = 2; deck(0) = 3; deck(1) = 0; told(0) = 4");
        says(10, "This is a change.");
        run("hold(4) = 0; told(9) = 1; hold(4) = 0; told(9) = 2; undo() = 1; undo() = 0");
        run(Sentences.cards(5, 63) + "hold(3) = 1; undo() = 2; deck(0) = 5; deck(1) = 1; card(0, 0) = 63");
        says(10, "`h`: the new H, 3 to 6");
        for (int h = 3; h <= 6; h++) {
            run("hold(" + h + ") = 0; deck(0) = " + h + "; deck(3) = " + h);
        }
        says(10, "Returns the number of cards that were held;");
        run("hold(6) = 0; addCard(0); hold(6) = 1; addCard(0); addCard(0); addCard(0); addCard(0); addCard(0); addCard(0); hold(3) = 6; "
            + "hold(3) = 0");
        says(10, "BAD if h is out of range.");
        run("hold(2) = BAD; hold(7) = BAD; hold(0) = BAD; hold(-1) = BAD; " + Sentences.far("hold(%)", "BAD")
            + "deck(0) = 4; told(9) = 0");
    }

    private static void keepDeck() {
        says(11, "Makes the deck of the graph the held one.");
        run(Sentences.cards(6, 1, 2, 3) + Sentences.graph(4, 0, 1, 1, 2, 2, 0, 2, 3) + "keepDeck() = 4; deck(0) = 4; deck(1) = 4; "
            + "deck(3) = 0; deck(8) = 1; " + Sentences.list("card(%, 0)", 1, 3, 3, 7, -1));
        // The held deck does not follow the graph.
        run("keepDeck() = 4; become(63); card(0, 0) = 0; deck(8) = 0; begin(8); deck(0) = 4; deck(1) = 4");
        says(11, "This is a change.");
        run("keepDeck() = 4; told(9) = 1; keepDeck() = 4; told(9) = 2; undo() = 1; deck(1) = 4; undo() = 0; deck(1) = 0");
        says(11, "Returns the number of its cards;");
        for (int n = 3; n <= 6; n++) {
            run("begin(" + n + "); keepDeck() = " + n + "; deck(1) = " + n + "; deck(0) = " + n);
        }
        says(11, "STATE if N is not from 3 to 6.");
        run("begin(2); keepDeck() = STATE; begin(1); keepDeck() = STATE; begin(7); keepDeck() = STATE; begin(8); keepDeck() = STATE; "
            + "told(9) = 4; deck(0) = 4; deck(1) = 0; begin(3); keepDeck() = 3; begin(6); keepDeck() = 6");
    }

    private static void addCard() {
        says(12, "Adds a card to the held deck.");
        run("addCard(7) = 0; deck(1) = 1; card(0, 0) = 7; addCard(0) = 0; deck(1) = 2; card(0, 0) = 0; card(1, 0) = 7");
        says(12, "This is a change.");
        run("addCard(0); told(9) = 1; addCard(0); told(9) = 2; undo() = 1; deck(1) = 1; undo() = 0; deck(1) = 0");
        says(12, "`code`: the code of a graph with H - 1 vertices");
        // Any code of the graph may be given; the card has the smallest one.
        run("addCard(1); addCard(2); addCard(4); " + Sentences.list("card(%, 0)", 1, 1, 1));
        run("hold(3); addCard(1) = 0; card(0, 0) = 1; card(0, 1) = 1; hold(6); addCard(512) = 0; card(0, 0) = 1; card(0, 1) = 1");
        says(12, "Returns the number of the card then");
        run("hold(5); addCard(12) = 0; addCard(63) = 1; addCard(0) = 0; addCard(15) = 2; addCard(11) = 1");
        says(12, "(of several with the same code, the lowest one);");
        run("addCard(7) = 0; addCard(7) = 0; addCard(0) = 0; addCard(7) = 1");
        run("addCard(6) = 0; addCard(5) = 0; addCard(1) = 0; addCard(3) = 1; " + Sentences.list("card(%, 0)", 1, 3, 3, 3));
    }

    private static void addCardErrors() {
        says(12, "BAD if code is negative,");
        run("addCard(-1) = BAD; addCard(MIN) = BAD; addCard(-8) = BAD; deck(1) = 0; told(9) = 0");
        run("hold(3); addCard(-1) = BAD; addCard(-2) = BAD; hold(6); addCard(-1) = BAD; addCard(-1024) = BAD; deck(1) = 0");
        says(12, "or 2 to the power of (H - 1) * (H - 2) / 2 or more;");
        for (int h = 3; h <= 6; h++) {
            int limit = 1 << (h - 1) * (h - 2) / 2;
            run("hold(" + h + "); addCard(" + limit + ") = BAD; addCard(" + (limit + 1) + ") = BAD; addCard(MAX) = BAD; deck(1) = 0; "
                + "told(9) = 1; addCard(" + (limit - 1) + ") = 0; card(0, 0) = " + (limit - 1));
        }
        says(12, "FULL if H cards are held.");
        for (int h = 3; h <= 6; h++) {
            StringBuilder calls = new StringBuilder("hold(" + h + "); ");
            for (int k = 0; k < h; k++) {
                calls.append("addCard(0) = 0; ");
            }
            run(calls + "addCard(0) = FULL; addCard(1) = FULL; deck(1) = " + h + "; dropCard(0); addCard(1) = " + (h - 1)
                + "; addCard(1) = FULL");
        }
        run("keepDeck(); addCard(0) = FULL; told(9) = 1");
    }

    private static void dropCard() {
        says(13, "Removes a card from the held deck.");
        run(Sentences.cards(4, 0, 1, 3, 7) + "dropCard(0); " + Sentences.list("card(%, 0)", 1, 3, 7, -1));
        run(Sentences.cards(4, 0, 1, 3, 7) + "dropCard(3); " + Sentences.list("card(%, 0)", 0, 1, 3, -1));
        run(Sentences.cards(4, 0, 1, 3, 7) + "dropCard(1); " + Sentences.list("card(%, 0)", 0, 3, 7, -1));
        // Of cards with the same code, only one goes; H stays.
        run(Sentences.cards(4, 3, 3, 3) + "dropCard(1) = 2; card(0, 2) = 2; deck(0) = 4; deck(3) = 2");
        says(13, "This is a change.");
        run(Sentences.cards(4, 0, 1) + "dropCard(0) = 1; told(9) = 4; dropCard(0) = 0; undo() = 4; card(0, 0) = 1; undo() = 3; "
            + Sentences.list("card(%, 0)", 0, 1, -1));
        says(13, "`k`: the card");
        run(Sentences.cards(6, 0, 1, 3, 7, 15, 1023) + "dropCard(5) = 5; dropCard(5) = BAD; dropCard(0) = 4; card(0, 0) = 1");
        says(13, "Returns the number of cards that are left;");
        run("keepDeck(); dropCard(3) = 3; dropCard(2) = 2; dropCard(1) = 1; dropCard(0) = 0");
        says(13, "BAD if there is no such card.");
        run("dropCard(0) = BAD; addCard(0); dropCard(1) = BAD; dropCard(-1) = BAD; " + Sentences.far("dropCard(%)", "BAD")
            + "deck(1) = 1; told(9) = 1; dropCard(0) = 0; dropCard(0) = BAD");
        // A lost card is none.
        run("keepDeck(); dropCard(4) = BAD; dropCard(0) = 3; dropCard(3) = BAD");
    }

    private static void card() {
        says(14, "Returns a property of a held card.");
        run("become(63); addCard(1); card(0, 0) = 1; card(0, 1) = 1; told(9) = 2");
        says(14, "`k`: the card");
        run(Sentences.cards(4, 7, 3, 1, 0) + "card(-1, 1) = BAD; " + Sentences.list("card(%, 1)", 0, 1, 2, 3, -1));
        says(14, "`what`: 0 its canonical code;");
        run("addCard(4); card(0, 0) = 1; addCard(7); card(1, 0) = 7; addCard(0); card(0, 0) = 0");
        says(14, "1 its number of edges;");
        run("addCard(0); card(0, 1) = 0; addCard(7); card(1, 1) = 3; hold(6); addCard(1023); card(0, 1) = 10; hold(3); addCard(0); "
            + "card(0, 1) = 0; addCard(1); card(1, 1) = 1");
        says(14, "2 how often a card with this code is held;");
        run("addCard(3); card(0, 2) = 1; addCard(5); card(0, 2) = 2; card(1, 2) = 2; addCard(0); card(0, 2) = 1; card(1, 2) = 2; "
            + "addCard(6); card(0, 2) = 1; card(1, 2) = 3; card(3, 2) = 3");
        run(Sentences.cards(6, 0, 0, 0, 0, 0, 0) + "card(0, 2) = 6; card(5, 2) = 6");
        says(14, "3 the degree of the vertex that is not in it, by counting");
        run(Sentences.cards(4, 0, 3, 3, 3) + Sentences.list("card(%, 3)", 3, 1, 1, 1));
        run(Sentences.cards(3, 1, 1, 1) + Sentences.list("card(%, 3)", 2, 2, 2));
        run(Sentences.cards(6, 0, 0, 0, 0, 0, 0) + "card(5, 3) = 0");
        // By counting, also where it cannot be a degree: M is 4 here, and 2 there.
        run(Sentences.cards(4, 0, 7, 7, 3) + "card(0, 3) = 4");
        run(Sentences.cards(4, 0, 0, 1, 7) + "card(3, 3) = -1");
        says(14, "(NONE if a card is lost,");
        run("keepDeck(); card(0, 3) = 0; dropCard(0); card(0, 3) = NONE; addCard(0); card(0, 3) = 0");
        says(14, "or the first test is not passed);");
        run(Sentences.cards(4, 0, 0, 0, 1) + "card(0, 3) = NONE; card(3, 3) = NONE");
        run(Sentences.cards(6, 0, 0, 0, 0, 0, 7) + "card(0, 3) = NONE; dropCard(5); addCard(15); card(0, 3) = 1");
        // The other two tests do not matter.
        run(NO_ANSWER + "deck(5) = 3; card(0, 3) = 3; card(3, 3) = 1");
    }

    private static void cardErrors() {
        says(14, "4 how many answers there would be without this one card");
        run(Sentences.cards(4, 0, 0) + "card(0, 4) = 4; card(1, 4) = 4; deck(6) = 2; deck(1) = 2");
        run(Sentences.cards(4, 1, 3, 7, 3) + "card(0, 4) = 2; card(1, 4) = 1; card(2, 4) = 1; card(3, 4) = 2; deck(6) = 1");
        run(NO_ANSWER + "deck(6) = 0; card(0, 4) = 0; card(3, 4) = 1");
        says(14, "(NONE if no other card is held)");
        run("addCard(7); card(0, 4) = NONE; addCard(7); card(0, 4) = 4; dropCard(0); card(0, 4) = NONE");
        says(14, "Returns the property; BAD if there is no such card");
        for (int what = 0; what <= 4; what++) {
            run("card(0, " + what + ") = BAD; addCard(0); card(1, " + what + ") = BAD; card(-1, " + what + ") = BAD; "
                + Sentences.far("card(%, " + what + ")", "BAD"));
            run("keepDeck(); card(4, " + what + ") = BAD; dropCard(0); card(3, " + what + ") = BAD");
        }
        says(14, "or what is out of range.");
        run("addCard(0); card(0, -1) = BAD; card(0, 5) = BAD; card(0, 6) = BAD; " + Sentences.far("card(0, %)", "BAD"));
        run("card(0, 5) = BAD; card(0, -1) = BAD");
    }

    private static void deckSizes() {
        says(15, "Returns a number of the held deck.");
        run("begin(8); become(1); deck(0) = 4; deck(1) = 0");
        says(15, "`what`: 0 H;");
        run("deck(0) = 4; hold(3); deck(0) = 3; hold(6); deck(0) = 6; begin(5); keepDeck(); deck(0) = 5");
        says(15, "1 cards;");
        run("deck(1) = 0; addCard(0); deck(1) = 1; addCard(0); addCard(0); addCard(0); deck(1) = 4; addCard(0) = FULL; deck(1) = 4");
        says(15, "2 different cards;");
        run("deck(2) = 0; addCard(1); deck(2) = 1; addCard(2); deck(2) = 1; addCard(0); deck(2) = 2; addCard(7); deck(2) = 3");
        run(Sentences.cards(6, 0, 1, 3, 7, 15, 1023) + "deck(2) = 6");
        says(15, "3 lost cards;");
        run("deck(3) = 4; addCard(0); deck(3) = 3; addCard(0); addCard(0); deck(3) = 1; addCard(0); deck(3) = 0; dropCard(2); deck(3) = 1");
        run("hold(3); deck(3) = 3; hold(6); deck(3) = 6");
    }

    private static void deckCounting() {
        says(15, "4 the number of edges M by counting");
        run("keepDeck(); deck(4) = 0; begin(6); become(32767); keepDeck(); deck(4) = 15; begin(3); become(7); keepDeck(); deck(4) = 3");
        run(NO_ANSWER + "deck(4) = 4");
        says(15, "(NONE if a card is lost, or the first test is not passed);");
        run("deck(4) = NONE; keepDeck(); dropCard(3); deck(4) = NONE; addCard(1); deck(4) = NONE; deck(3) = 0; dropCard(3); "
            + "addCard(3); deck(4) = 1");
        run(Sentences.cards(5, 0, 0, 0, 0, 1) + "deck(4) = NONE; dropCard(4); addCard(3); deck(4) = NONE; dropCard(4); addCard(7); "
            + "deck(4) = 1");
        says(15, "5 the number of the first test that is not passed");
        run(Sentences.cards(4, 0, 0, 0, 1) + "deck(5) = 1");
        run(Sentences.cards(4, 0, 0, 1, 7) + "deck(5) = 2");
        run(NO_ANSWER + "deck(5) = 3");
        says(15, "(0 if all are;");
        run("keepDeck(); deck(5) = 0; become(63); keepDeck(); deck(5) = 0");
        // A cycle of 5 would have these degrees, but it has other cards.
        run(Sentences.cards(5, 7, 7, 7, 7, 7) + "deck(5) = 0; deck(6) = 0");
        says(15, "NONE if a card is lost);");
        run("deck(5) = NONE; addCard(0); addCard(0); addCard(0); deck(5) = NONE; addCard(1); deck(5) = 1; dropCard(0); deck(5) = NONE");
    }

    private static void deckAnswers() {
        says(15, "6 the answers;");
        run("addCard(0); deck(6) = 4; addCard(0); deck(6) = 2; addCard(0); deck(6) = 1; addCard(0); deck(6) = 1");
        run(NO_ANSWER + "deck(6) = 0");
        run("hold(3); addCard(0); deck(6) = 3; addCard(1); deck(6) = 2; addCard(1); deck(6) = 1");
        run("begin(6); keepDeck(); deck(6) = 1; dropCard(0); dropCard(0); dropCard(0); dropCard(0); deck(6) = 2; dropCard(0); deck(6) = 6");
        says(15, "8 whether the held deck is the deck of the graph (1 or 0)");
        run("deck(8) = 0; keepDeck(); deck(8) = 1; edge(0, 1, 1); deck(8) = 0; undo(); deck(8) = 1; dropCard(0); deck(8) = 0; "
            + "addCard(0); deck(8) = 1; dropCard(0); addCard(1); deck(8) = 0");
        // Another graph with the same deck is the same but for the numbers.
        run("become(41); keepDeck(); become(13); deck(8) = 1; become(7); deck(8) = 0");
        // The cards must fit in number and in size: 3 cards of 2 vertices are not 4 cards of 3 vertices.
        run(Sentences.cards(3, 0, 0, 0) + "deck(8) = 0; begin(3); deck(8) = 1; begin(2); deck(8) = 0; begin(1); deck(8) = 0");
        run("begin(6); keepDeck(); deck(8) = 1; begin(7); deck(8) = 0; begin(8); deck(8) = 0; begin(5); deck(8) = 0");
        run("begin(1); deck(8) = 0; hold(3); deck(8) = 0");
    }

    private static void deckEnough() {
        says(15, "7 the smallest number of held cards that are enough, which means that there is a choice of so many of them "
            + "with which there would be exactly one answer");
        run("become(63); keepDeck(); deck(7) = 3; dropCard(0); deck(7) = 3");
        run("become(41); keepDeck(); deck(7) = 4");
        run("begin(3); keepDeck(); deck(7) = 3");
        // Of the cards 0 1 1 3, only 0 1 3 are enough; of 3 3 12 13 13, only 3 12 13.
        run("become(3); keepDeck(); deck(7) = 3");
        run("begin(5); become(58); keepDeck(); deck(7) = 3; dropCard(4); dropCard(0); deck(7) = 3");
        run("begin(5); become(220); keepDeck(); deck(7) = 3; dropCard(0); deck(7) = 3; dropCard(0); deck(7) = 3");
        // A choice of four: no three of these are enough.
        run(Sentences.cards(5, 3, 3, 13, 13) + "deck(6) = 1; answer(0) = 58; deck(7) = 4");
        says(15, "(NONE if there is not exactly one answer,");
        run(NO_ANSWER + "deck(6) = 0; deck(7) = NONE");
        run("addCard(7); deck(7) = NONE; addCard(7); deck(6) = 2; deck(7) = NONE; addCard(7); deck(7) = 3");
        says(15, "or H is 6);");
        run("begin(6); keepDeck(); deck(6) = 1; deck(7) = NONE; begin(5); keepDeck(); deck(6) = 1; deck(7) = 3");
    }

    private static void deckErrors() {
        says(15, "Returns the number; BAD if what is out of range;");
        run("deck(-1) = BAD; deck(9) = BAD; deck(10) = BAD; " + Sentences.far("deck(%)", "BAD") + "addCard(0); deck(-1) = BAD; "
            + "deck(9) = BAD");
        says(15, "STATE for 6 and 7 if no card is held.");
        run("deck(6) = STATE; deck(7) = STATE; addCard(0); deck(6) = 4; deck(7) = NONE; dropCard(0); deck(6) = STATE; deck(7) = STATE");
        run(Sentences.list("deck(%)", 4, 0, 0, 4, -9, -9, -2, -2, 0, -1));
        run("hold(6); deck(6) = STATE; deck(7) = STATE; hold(3); deck(6) = STATE; deck(7) = STATE");
    }

    private static void counted() {
        says(16, "Counts copies of a pattern in the unknown graph, by counting in the cards.");
        run("begin(5); become(1023); keepDeck(); begin(8); " + Sentences.list("counted(%)", 10, 30, 10, 20, 60, 15, 60, 30, 5));
        says(16, "`pattern`: the pattern, 0 to 8");
        run("begin(6); keepDeck(); " + Sentences.list("counted(%)", 0, 0, 0, 0, 0, 0, 0, 0, 0, -1));
        says(16, "Returns the number of copies;");
        run(Sentences.graph(6, 0, 1, 1, 2, 2, 0, 2, 3, 3, 4, 3, 5) + "keepDeck(); "
            + Sentences.list("counted(%)", 6, 8, 1, 2, 6, 0, 1, 0, 0));
        says(16, "NONE if a card is lost,");
        run("counted(0) = NONE; become(63); keepDeck(); counted(0) = 6; dropCard(0); counted(0) = NONE; counted(2) = NONE; "
            + "addCard(7); counted(2) = 4");
        says(16, "the pattern does not have less than H vertices,");
        run("begin(3); become(7); keepDeck(); " + Sentences.list("counted(%)", 3, -9, -9, -9, -9, -9, -9, -9, -9));
        run("become(63); keepDeck(); " + Sentences.list("counted(%)", 6, 12, 4, -9, -9, -9, -9, -9, -9));
        run("begin(5); keepDeck(); " + Sentences.list("counted(%)", 0, 0, 0, 0, 0, 0, 0, 0, 0));
        says(16, "or the sum is not divisible;");
        run(Sentences.cards(4, 0, 0, 0, 7) + "counted(0) = NONE; counted(1) = 3; counted(2) = 1");
        run(Sentences.cards(5, 0, 0, 0, 0, 11) + "counted(0) = 1; counted(1) = NONE; counted(2) = NONE; counted(3) = 0");
        run(Sentences.cards(6, 0, 0, 0, 0, 0, 7) + "counted(0) = NONE; counted(1) = 1; counted(2) = 0; counted(3) = NONE");
        says(16, "BAD if pattern is out of range.");
        run("counted(-1) = BAD; counted(9) = BAD; keepDeck(); counted(-1) = BAD; counted(9) = BAD; counted(10) = BAD; "
            + Sentences.far("counted(%)", "BAD"));
    }

    private static void answer() {
        says(17, "Returns an answer.");
        run("become(41); keepDeck(); become(0); answer(0) = 13; told(2) = 0; told(9) = 3");
        says(17, "`k`: the index of the answer, in ascending order, 0 or more");
        run("addCard(3); " + Sentences.list("answer(%)", 3, 7, 13, 15, 30, 31, -9));
        says(17, "Returns its canonical code; NONE if there are not so many;");
        run("addCard(0); answer(3) = 7; answer(4) = NONE; answer(5) = NONE; answer(MAX) = NONE; addCard(0); addCard(0); answer(0) = 0; "
            + "answer(1) = NONE");
        run(NO_ANSWER + "answer(0) = NONE; answer(MAX) = NONE");
        says(17, "BAD if k is negative;");
        run("answer(-1) = BAD; answer(MIN) = BAD; addCard(0); answer(-1) = BAD; answer(-9) = BAD; answer(MIN) = BAD");
        run(NO_ANSWER + "answer(-1) = BAD");
        says(17, "STATE if no card is held.");
        run("answer(0) = STATE; answer(MAX) = STATE; addCard(0); answer(0) = 0; dropCard(0); answer(0) = STATE; hold(6); answer(0) = STATE");
    }

    private static void missing() {
        says(18, "Returns a card that is missing, if there is exactly one answer: the cards of its deck that are left when the "
            + "held ones are taken away.");
        run("become(63); keepDeck(); dropCard(0); missing(0) = 7; missing(1) = NONE; deck(1) = 3");
        // The deck 3 3 12 13 13 without 3 12 13; each card that is held is taken away once.
        run(Sentences.cards(5, 3, 12, 13) + "deck(6) = 1; missing(0) = 3; missing(1) = 13; missing(2) = NONE");
        run(Sentences.cards(5, 63, 63, 63) + "deck(6) = 1; missing(0) = 63; missing(1) = 63; missing(2) = NONE");
        says(18, "`k`: the index of the card, in ascending order of the codes, 0 or more");
        run(Sentences.cards(5, 11, 12, 15) + "deck(6) = 1; answer(0) = 185; missing(0) = 13; missing(1) = 13; missing(2) = NONE");
        run(Sentences.cards(5, 30, 3, 7) + "deck(6) = 1; answer(0) = 62; missing(0) = 13; missing(1) = 13");
        run(Sentences.cards(5, 11, 3, 1) + "deck(6) = 1; answer(0) = 23; missing(0) = 3; missing(1) = 15; missing(2) = NONE");
        says(18, "Returns its canonical code; NONE if there are not so many,");
        run("keepDeck(); deck(6) = 1; missing(0) = NONE; missing(MAX) = NONE; dropCard(3); missing(0) = 0; missing(1) = NONE; "
            + "missing(MAX) = NONE");
        says(18, "or there is not exactly one answer;");
        run(NO_ANSWER + "missing(0) = NONE; dropCard(3); deck(6) = 1; missing(0) = 1; addCard(7); missing(0) = NONE; dropCard(0); "
            + "deck(6) = 0; missing(0) = NONE");
        // What was found before, in the graph or in other cards, does not count.
        run("told(6) = 1; " + NO_ANSWER + "missing(0) = NONE");
        run("keepDeck(); dropCard(0); missing(0) = 0; " + NO_ANSWER + "missing(0) = NONE; deck(7) = NONE");
        run("addCard(7); addCard(7); deck(6) = 2; missing(0) = NONE; addCard(7); deck(6) = 1; missing(0) = 7");
        says(18, "BAD if k is negative;");
        run("missing(-1) = BAD; missing(MIN) = BAD; addCard(0); missing(-1) = BAD; keepDeck(); missing(-1) = BAD; missing(-9) = BAD; "
            + "missing(MIN) = BAD");
        says(18, "STATE if no card is held.");
        run("missing(0) = STATE; missing(MAX) = STATE; addCard(0); missing(0) = NONE; dropCard(0); missing(0) = STATE; hold(6); "
            + "missing(0) = STATE");
    }

    private static void accept() {
        says(19, "Makes an answer the graph: the graph with H vertices whose code is the canonical code of the answer.");
        run("begin(8); addCard(3); accept(2) = 3; told(0) = 4; told(2) = 13; told(3) = 13; vertex(0, 1) = 8; deck(1) = 1");
        run("hold(6); addCard(1023); accept(5) = 15; told(0) = 6; told(2) = 32767; hold(3); addCard(0); accept(0) = 0; told(0) = 3");
        // The graph that had this deck in another numbering gets the smallest code.
        run("become(41); keepDeck(); accept(0) = 3; told(2) = 13; deck(8) = 1");
        says(19, "This is a change.");
        run("begin(5); become(1); addCard(0); told(9) = 3; accept(3) = 3; told(9) = 4; accept(3) = 3; told(9) = 5; undo() = 4; "
            + "told(2) = 7; undo() = 3; told(0) = 5; told(2) = 1; deck(1) = 1");
        says(19, "`k`: the index of the answer");
        run("addCard(0); " + Sentences.list("accept(%)", 0, 1, 2, 3, -1) + "told(2) = 7");
        says(19, "Returns the number of its edges;");
        run("addCard(7); accept(0) = 3; told(1) = 3; accept(3) = 6; told(1) = 6; hold(6); addCard(0); accept(0) = 0; accept(5) = 5");
        says(19, "BAD if there is no such answer");
        run("addCard(0); accept(4) = BAD; accept(-1) = BAD; " + Sentences.far("accept(%)", "BAD") + "told(9) = 1; told(2) = 0; "
            + "addCard(0); accept(2) = BAD; accept(1) = 1");
        run("become(41); hold(4); addCard(1); addCard(1); addCard(7); addCard(7); accept(0) = BAD; told(2) = 41; told(9) = 6");
        says(19, "(also if no card is held).");
        run("accept(0) = BAD; accept(1) = BAD; accept(-1) = BAD; accept(MAX) = BAD; addCard(0); accept(0) = 0; dropCard(0); "
            + "accept(0) = BAD; told(9) = 3; hold(6); accept(0) = BAD");
    }
}
