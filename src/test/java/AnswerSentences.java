/** The promises 5 to 34: what can be asked of the game. */
final class AnswerSentences extends SentenceTests {
    private static final String NO_CARD = "Throws `NoSuchElementException` if there is no such card";
    private static final String NO_PLAYER = "Throws `NoSuchElementException` if there is no such player";

    AnswerSentences(Doc doc, Check check) {
        super(doc, check);
    }

    @Override
    void all() {
        size();
        sizeOfTricks();
        cards();
        hands();
        legal();
        presentTrick();
        playedCards();
        counted();
        ranking();
        known();
        masters();
        darkIn();
        sure();
        means();
    }

    /** No card outside the smallest, the first and the largest row, ahead of a hand, in it and behind it. */
    private void noCard(int promise, String what, AskedOf asked) {
        doc.promise(promise, NO_CARD, () -> {
            for (String text : new String[] {"blue 4 2 3;", "blue 9 2 5;", "blue 13 4 13;"}) {
                FadingTrumps x = game(text);
                only(what, 4 * x.size(0), w -> asked.of(x, w));
                x.auto(1);
                only(what + " in a trick", 4 * x.size(0), w -> asked.of(x, w));
                x.auto(52);
                only(what + " behind the hand", 4 * x.size(0), w -> asked.of(x, w));
            }
            FadingTrumps x = game("blue 13 4 13;");
            Check.load(x, "blue 4 2 3;");
            only(what + " behind a smaller text", 16, w -> asked.of(x, w));
        });
    }

    private void noPlayer(int promise, String what, AskedOf asked) {
        doc.promise(promise, NO_PLAYER, () -> players(what, asked));
    }

    private void players(String what, AskedOf asked) {
        for (int players = 2; players <= 4; players++) {
            FadingTrumps x = game("blue 4 " + players + " 3;");
            only(what + " of " + players, players, w -> asked.of(x, w));
            x.auto(1);
            only(what + " of " + players + " in a trick", players, w -> asked.of(x, w));
            x.auto(52);
            only(what + " of " + players + " behind the hand", players, w -> asked.of(x, w));
        }
        FadingTrumps x = game("blue 4 4 3;");
        Check.load(x, "blue 4 2 3;");
        only(what + " behind a smaller text", 2, w -> asked.of(x, w));
    }

    interface AskedOf {
        long of(FadingTrumps game, int argument);
    }

    // ---- 5 size

    private void size() {
        doc.promise(5, "Returns a number of the game.", () -> {
            FadingTrumps x = game(THREE);
            same("at first", sizesOf(x), "4 3 2 1 1 3 3 2 0 1 1 0 0 0");
            plays(x, 1);
            same("in a trick", sizesOf(x), "4 3 2 1 1 3 3 2 0 2 1 0 1 0");
            plays(x, 4, 0);
            same("behind a trick", sizesOf(x), "4 3 2 1 1 1 3 2 0 2 2 1 3 0");
            plays(x, 9, 5, 8);
            same("behind the hand", sizesOf(x), "4 3 2 1 -1 0 3 2 0 -1 0 2 6 1");
        });
        doc.promise(5, "- `what`: 0 RANKS, 1 players, 2 HELD, 3 the rule,", () -> {
            same("the least", sizesOf(game("blue 4 2 1 rule 0;")).substring(0, 7), "4 2 1 0");
            same("the most", sizesOf(game("blue 13 4 13 rule 3;")).substring(0, 9), "13 4 13 3");
        });
        doc.promise(5, "4 the trump (NONE without one), 5 the glow, 6 GLOW, 7 FADE, 8 1 if REVIVE is on, otherwise 0,",
            () -> {
            FadingTrumps x = game("blue 4 2 2 trump 3 glow 30 fade 9 revive;");
            due("the trump", x.size(4), 3);
            due("the glow", x.size(5), 30);
            due("GLOW", x.size(6), 30);
            due("FADE", x.size(7), 9);
            due("REVIVE", x.size(8), 1);
            x.auto(2);
            due("the glow behind a trick", x.size(5), 21);
            due("GLOW behind a trick", x.size(6), 30);
            FadingTrumps y = game("blue 4 2 2 trump 0 glow 2 fade 2;");
            y.auto(2);
            due("the trump that has ended", y.size(4), NONE);
            due("the glow that has ended", y.size(5), 0);
            due("GLOW stays", y.size(6), 2);
            due("REVIVE", y.size(8), 0);
            FadingTrumps z = game("blue 4 2 2 trump 0 glow 0 fade 0;");
            same("the least", z.size(4) + " " + z.size(5) + " " + z.size(6) + " " + z.size(7), "0 0 0 0");
        });
        doc.promise(5, "Throws `NoSuchElementException` if what is out of range", () -> {
            FadingTrumps x = game(THREE);
            only("size", 14, x::size);
            x.auto(52);
            only("size behind the hand", 14, x::size);
        });
    }

    private void sizeOfTricks() {
        doc.promise(5, "9 the player whose turn it is (NONE if the hand is over),", () -> {
            FadingTrumps x = game("blue 4 4 1 lead 3;");
            for (int due : new int[] {3, 0, 1, 2, NONE}) {
                due("whose turn it is", x.size(9), due);
                x.auto(1);
            }
            x.undo();
            due("the last card is undone", x.size(9), 2);
        });
        doc.promise(5, "10 the player who leads the present trick, or would lead the next one (also behind the last "
            + "trick of a hand),", () -> {
            FadingTrumps x = game("blue 4 3 2;hand 0 0 4;hand 1 1 5;hand 2 2 6;");
            due("ahead of a trick", x.size(10), 0);
            plays(x, 0);
            due("in a trick", x.size(10), 0);
            plays(x, 1);
            due("in a trick, not who has it so far", x.size(10), 0);
            plays(x, 2);
            due("behind a trick", x.size(10), 2);
            plays(x, 6, 4);
            due("in the last trick", x.size(10), 2);
            plays(x, 5);
            due("behind the last trick", x.size(10), 2);
            FadingTrumps y = game("blue 4 2 1;hand 0 0;hand 1 1;");
            plays(y, 0, 1);
            due("who would lead the next one", y.size(10), 1);
            y.deal(0);
            due("who leads the next hand", y.size(10), 1);
            y.auto(2);
            y.deal(0);
            due("who leads the hand behind it", y.size(10), 0);
        });
        doc.promise(5, "11 complete tricks of the hand, 12 cards that were played in the hand, 13 hands that are over",
            () -> {
            FadingTrumps x = game("blue 13 4 13;");
            for (int cards = 0; cards <= 52; cards++) {
                due("complete tricks of " + cards, x.size(11), cards / 4);
                due("cards", x.size(12), cards);
                due("hands", x.size(13), cards / 52);
                x.auto(1);
            }
            x.deal(0);
            due("complete tricks of a new hand", x.size(11), 0);
            due("cards of a new hand", x.size(12), 0);
            due("hands that are over", x.size(13), 1);
            x.auto(52);
            due("hands that are over", x.size(13), 2);
            x.undo();
            due("hands that are over, behind undo", x.size(13), 1);
        });
    }

    // ---- 6 to 8: suit, rank, holder

    private void cards() {
        doc.promise(6, "Returns the suit of a card.", () -> {
            FadingTrumps x = game("blue 13 2 2;");
            int[] cards = {0, 12, 13, 25, 26, 38, 39, 51};
            for (int i = 0; i < 8; i++) {
                due("suit(" + cards[i] + ")", x.suit(cards[i]), i / 2);
            }
            x.auto(52);
            due("of a card that was played", x.suit(x.played(0, 0)), x.played(0, 0) / 13);
        });
        noCard(6, "suit", FadingTrumps::suit);
        doc.promise(7, "Returns the rank of a card.", () -> {
            FadingTrumps x = game("blue 13 2 2;");
            int[] cards = {0, 12, 13, 25, 26, 38, 39, 51};
            for (int i = 0; i < 8; i++) {
                due("rank(" + cards[i] + ")", x.rank(cards[i]), i % 2 == 0 ? 1 : 13);
            }
            due("rank(3) of 4", game("blue 4 2 2;").rank(3), 4);
            due("rank(4) of 4", game("blue 4 2 2;").rank(4), 1);
        });
        noCard(7, "rank", FadingTrumps::rank);
        doc.promise(8, "Returns the player who has a card in their hand; NONE if nobody does.", () -> {
            FadingTrumps x = game(THREE);
            int[] due = {0, 1, NONE, NONE, 2, 0, NONE, NONE, 1, 2, NONE, NONE, NONE, NONE, NONE, NONE};
            for (int card = 0; card < 16; card++) {
                due("holder(" + card + ")", x.holder(card), due[card]);
            }
            plays(x, 1);
            due("of a card that was played", x.holder(1), NONE);
            x.auto(52);
            for (int card = 0; card < 16; card++) {
                due("behind the hand", x.holder(card), NONE);
            }
            FadingTrumps y = game("blue 13 4 13;hand 3 51;hand 0 0;");
            due("of the first card", y.holder(0), 0);
            due("of the last card", y.holder(51), 3);
        });
        noCard(8, "holder", FadingTrumps::holder);
    }

    // ---- 9 to 11: held, inHand, ofSuit

    private void hands() {
        doc.promise(9, "Returns how many cards a player has in their hand.", () -> {
            FadingTrumps x = game("blue 13 4 13;");
            for (int cards = 0; cards <= 52; cards++) {
                int sum = 0;
                for (int player = 0; player < 4; player++) {
                    sum += x.held(player);
                }
                due("all that are held behind " + cards, sum, 52 - cards);
                x.auto(1);
            }
            due("behind the hand", x.held(0), 0);
            FadingTrumps y = game("blue 4 2 1 lead 1;");
            y.auto(1);
            due("who played", y.held(1), 0);
            due("who did not", y.held(0), 1);
        });
        noPlayer(9, "held", FadingTrumps::held);
        doc.promise(10, "Returns a card in the hand of a player, from 0 in ascending order.", () -> {
            FadingTrumps x = game("blue 13 2 4;hand 1 51 0 39 38;");
            same("ascending", handOf(x, 1).toString(), "[0, 38, 39, 51]");
            FadingTrumps y = game("blue 4 2 3;hand 0 8 1 15;");
            plays(y, 8);
            same("without a card that was played", handOf(y, 0).toString(), "[1, 15]");
            FadingTrumps z = game("blue 13 4 13;");
            for (int player = 0; player < 4; player++) {
                for (int index = 0; index < 13; index++) {
                    due("whose card it is", z.holder(z.inHand(player, index)), player);
                    yes("ascending", index == 0 || z.inHand(player, index) > z.inHand(player, index - 1));
                }
            }
        });
        doc.promise(10, "Throws `NoSuchElementException` if there is no such player, or they have not so many",
            this::notSoMany);
        doc.promise(11, "Returns how many cards of a suit a player has in their hand.", () -> {
            FadingTrumps x = game("blue 4 2 8;hand 1 0 3 4 8 9 10 11 15;");
            same("player 1", ofSuits(x, 1), "2 1 4 1");
            same("player 0", ofSuits(x, 0), "2 3 0 3");
            plays(x, 1, 0);
            same("behind a trick", ofSuits(x, 1), "1 1 4 1");
            x.auto(52);
            same("behind the hand", ofSuits(x, 1), "0 0 0 0");
            FadingTrumps y = game("blue 13 2 13;hand 0 39 40 41 42 43 44 45 46 47 48 49 50 51;");
            same("a whole suit", ofSuits(y, 0), "0 0 0 13");
        });
        doc.promise(11, "Throws `NoSuchElementException` if there is no such player or suit", () -> {
            players("ofSuit", (x, w) -> x.ofSuit(w, 3));
            FadingTrumps x = game("blue 9 3 5;");
            only("ofSuit of a suit", 4, w -> x.ofSuit(2, w));
            noSuch("both", () -> x.ofSuit(3, 4));
        });
    }

    private String ofSuits(FadingTrumps x, int player) {
        return x.ofSuit(player, 0) + " " + x.ofSuit(player, 1) + " " + x.ofSuit(player, 2) + " " + x.ofSuit(player, 3);
    }

    private void notSoMany() {
        players("inHand", (x, w) -> x.held(w) == 0 ? 0 : x.inHand(w, 0));
        FadingTrumps x = game("blue 4 2 3;hand 0 1 2 3;");
        only("inHand of three", 3, w -> x.inHand(0, w));
        noSuch("no such player with an index", () -> x.inHand(2, 0));
        noSuch("no such player nor index", () -> x.inHand(-1, -1));
        x.auto(1);
        only("inHand of two", 2, w -> x.inHand(0, w));
        only("inHand of the other one's three", 3, w -> x.inHand(1, w));
        x.auto(52);
        noSuch("none behind the hand", () -> x.inHand(0, 0));
        FadingTrumps y = game("blue 13 4 13;");
        only("inHand of the most", 13, w -> y.inHand(3, w));
    }

    // ---- 12, 13: isLegal, legal

    private void legal() {
        doc.promise(12, "Returns whether the player whose turn it is has a card and may play it (false if the hand is "
            + "over).", () -> {
            FadingTrumps x = game(THREE);
            same("who leads", legalOf(x), "1 8");
            no("a card of another one", x.isLegal(0));
            no("a card that lies aside", x.isLegal(15));
            plays(x, 1);
            no("a card that was played", x.isLegal(1));
            same("who has none of the suit", legalOf(x), "4 9");
            plays(x, 4);
            same("who has one of the suit", legalOf(x), "0");
            no("which they may not play", x.isLegal(5));
            x.auto(52);
            for (int card = 0; card < 16; card++) {
                no("behind the hand", x.isLegal(card));
            }
        });
        noCard(12, "isLegal", (x, w) -> Check.flag(x.isLegal(w)));
        doc.promise(13, "Returns how many cards the player whose turn it is may play (0 if the hand is over).", () -> {
            FadingTrumps x = game(THREE);
            due("who leads", x.legal(), 2);
            plays(x, 1, 4);
            due("one of the suit", x.legal(), 1);
            x.auto(52);
            due("behind the hand", x.legal(), 0);
            due("the most", game("blue 13 4 13;").legal(), 13);
            FadingTrumps y = game("blue 13 2 13;hand 0 0 1 2 3 4 5 6 7 8 9 10 11 12;");
            plays(y, 12);
            due("all of them", y.legal(), 13);
            FadingTrumps z = game("blue 4 2 1;");
            due("the only one", z.legal(), 1);
        });
    }

    // ---- 14 to 17: power, led, winning, wouldLead

    private void presentTrick() {
        doc.promise(14, "Returns the power of a card in the present trick, as if it was played now (whoever has it, "
            + "also if the hand is over);", this::powerInTrick);
        doc.promise(14, "if no card was played in it, as if it led.", () -> {
            FadingTrumps x = game(THREE);
            for (int card = 0; card < 16; card++) {
                due("the power of " + card, x.power(card), card % 4 + 1 + (card / 4 == 1 ? 3 : 0));
            }
            plays(x, 1, 4, 0);
            for (int card = 0; card < 16; card++) {
                due("the power of " + card + " behind a trick", x.power(card), card % 4 + 1 + (card / 4 == 1 ? 1 : 0));
            }
            due("the lowest", new FadingTrumps().power(0), 1);
            due("the highest", game("blue 13 2 1 trump 3 glow 30;").power(51), 43);
        });
        noCard(14, "power", FadingTrumps::power);
        doc.promise(15, "Returns the suit that is led in the present trick; NONE if no card was played in it.", () -> {
            FadingTrumps x = game(THREE);
            due("ahead of a trick", x.led(), NONE);
            plays(x, 1);
            due("in a trick", x.led(), 0);
            plays(x, 4);
            due("in a trick with a trump", x.led(), 0);
            plays(x, 0);
            due("behind a trick", x.led(), NONE);
            plays(x, 9);
            due("in the next one", x.led(), 2);
            plays(x, 5, 8);
            due("behind the hand", x.led(), NONE);
        });
        doc.promise(16, "Returns the player whose card would win the present trick as it is; NONE if no card was "
            + "played in it.", () -> {
            FadingTrumps x = game(THREE);
            due("ahead of a trick", x.winning(), NONE);
            plays(x, 1);
            due("the only card", x.winning(), 1);
            plays(x, 4);
            due("a trump", x.winning(), 2);
            plays(x, 0);
            due("behind a trick", x.winning(), NONE);
            plays(x, 9, 5);
            due("a trump", x.winning(), 0);
            plays(x, 8);
            due("behind the hand", x.winning(), NONE);
            FadingTrumps y = game("blue 4 3 1 trump 1 glow 2;hand 0 3;hand 1 5;hand 2 7;");
            plays(y, 3, 5);
            due("of as much power the first one", y.winning(), 0);
        });
        doc.promise(17, "Returns whether a card, whoever has it, would be the best one of the present trick, if it "
            + "was played now (true if no card was played in it).", this::bestCards);
        noCard(17, "wouldLead", (x, w) -> Check.flag(x.wouldLead(w)));
    }

    private void powerInTrick() {
        FadingTrumps x = game(THREE);
        plays(x, 1);
        for (int card = 0; card < 16; card++) {
            int due = card < 4 ? card + 1 : card < 8 ? card - 3 + 3 : 0;
            due("the power of " + card, x.power(card), due);
        }
        plays(x, 4, 0, 9, 5, 8);
        for (int card = 0; card < 16; card++) {
            due("the power of " + card + " behind the hand", x.power(card), card % 4 + 1);
        }
        FadingTrumps y = game("blue 4 2 1 trump 2 glow 9 fade 1;");
        y.auto(2);
        due("of a trump behind the hand", y.power(11), 12);
        due("of another card behind the hand", y.power(15), 4);
    }

    private String best(FadingTrumps x) {
        StringBuilder b = new StringBuilder();
        for (int card = 0; card < 16; card++) {
            b.append(x.wouldLead(card) ? card + " " : "");
        }
        return b.toString().trim();
    }

    private void bestCards() {
        String all = "0 1 2 3 4 5 6 7 8 9 10 11 12 13 14 15";
        FadingTrumps x = game(THREE);
        same("ahead of a trick", best(x), all);
        plays(x, 1);
        same("in a trick", best(x), "2 3 4 5 6 7");
        plays(x, 4);
        same("behind a trump of the power 4", best(x), "5 6 7");
        plays(x, 0);
        same("behind a trick", best(x), all);
        x.auto(52);
        same("behind the hand", best(x), all);
        FadingTrumps y = game("blue 4 2 1 trump 1 glow 2;hand 0 3;");
        plays(y, 3);
        same("as much power is not enough", best(y), "6 7");
        FadingTrumps z = game("blue 4 2 1 trump 1 glow 2;hand 0 7;");
        plays(z, 7);
        same("nothing is better", best(z), "");
    }

    // ---- 18, 19: played, trick

    private void playedCards() {
        doc.promise(18, "Returns a number of a card that was played in the hand, from 0 in their order: what 0 the "
            + "card, 1 the player, 2 its trick (from 0).", () -> {
            FadingTrumps x = game(THREE);
            plays(x, 1, 4, 0, 9);
            int[][] due = {{1, 1, 0}, {4, 2, 0}, {0, 0, 0}, {9, 2, 1}};
            for (int i = 0; i < 12; i++) {
                due("played(" + i / 3 + ", " + i % 3 + ")", x.played(i / 3, i % 3), due[i / 3][i % 3]);
            }
            FadingTrumps y = game("blue 13 4 13;");
            y.auto(52);
            for (int i = 0; i < 52; i++) {
                due("the trick of " + i, y.played(i, 2), i / 4);
            }
            y.deal(5);
            y.auto(1);
            due("in a new hand", y.played(0, 2), 0);
        });
        doc.promise(18, "Throws `NoSuchElementException` if there are not so many or what is out of range", () -> {
            FadingTrumps x = game(THREE);
            noSuch("none", () -> x.played(0, 0));
            noSuch("what out of range, and none", () -> x.played(0, 3));
            plays(x, 1, 4);
            only("played", 2, w -> x.played(w, 0));
            only("played what", 3, w -> x.played(1, w));
            x.undo();
            only("played behind undo", 1, w -> x.played(w, 2));
            x.auto(52);
            only("played behind the hand", 6, w -> x.played(w, 1));
            x.deal(0);
            noSuch("none in a new hand", () -> x.played(0, 0));
            FadingTrumps y = game("blue 13 4 13;");
            y.auto(52);
            only("played of the most", 52, w -> y.played(w, 2));
        });
        doc.promise(19, "Returns a number of a complete trick of the hand: what 0 who led it, 1 who has it, 2 the "
            + "card that won, 3 the suit that was led, 4 the trump (NONE without one) and 5 the glow as it was played.",
            this::completeTricks);
        doc.promise(19, "Throws `NoSuchElementException` if there is no such trick or what is out of range", () -> {
            FadingTrumps x = game(THREE);
            noSuch("none", () -> x.trick(0, 0));
            plays(x, 1, 4);
            noSuch("one that is not complete", () -> x.trick(0, 0));
            plays(x, 0);
            only("trick", 1, w -> x.trick(w, 0));
            only("trick what", 6, w -> x.trick(0, w));
            x.auto(1);
            only("trick in the next one", 1, w -> x.trick(w, 5));
            x.auto(52);
            only("trick behind the hand", 2, w -> x.trick(w, 5));
            x.deal(0);
            noSuch("none in a new hand", () -> x.trick(0, 0));
            FadingTrumps y = game("blue 13 4 13;");
            y.auto(52);
            only("trick of the most", 13, w -> y.trick(w, 2));
            only("trick what of the last one", 6, w -> y.trick(12, w));
        });
    }

    private String trickOf(FadingTrumps x, int trick) {
        StringBuilder b = new StringBuilder();
        for (int what = 0; what < 6; what++) {
            b.append(what > 0 ? " " : "").append(x.trick(trick, what));
        }
        return b.toString();
    }

    private void completeTricks() {
        FadingTrumps x = game(THREE);
        plays(x, 1, 4, 0, 9, 5, 8);
        same("the first one", trickOf(x, 0), "1 2 4 0 1 3");
        same("the last one, with the glow ahead of its end", trickOf(x, 1), "2 0 5 2 1 1");
        FadingTrumps y = game("blue 4 2 2 trump 3 glow 2;hand 0 3 2;hand 1 0 1;");
        plays(y, 3, 0, 2, 1);
        same("with a trump", trickOf(y, 0), "0 0 3 0 3 2");
        same("without a trump any more", trickOf(y, 1), "0 0 2 0 -1 0");
        FadingTrumps z = game("blue 4 2 2 trump 3 glow 2 revive;hand 0 3 2;hand 1 0 1;");
        plays(z, 3, 0, 2, 1);
        same("ahead of the passing", trickOf(z, 0), "0 0 3 0 3 2");
        same("with a trump that passed", trickOf(z, 1), "0 0 2 0 0 2");
        FadingTrumps w = game("blue 4 2 1 trump 3 glow 0;");
        w.auto(2);
        same("a trump without a glow", trickOf(w, 0).replaceAll("^\\S+ \\S+ \\S+ \\S+ ", ""), "3 0");
        FadingTrumps v = game("blue 13 4 13 trump 2 glow 30 fade 3 lead 3 seed 9;");
        v.auto(52);
        for (int trick = 0; trick < 13; trick++) {
            int winner = NONE;
            for (int i = 4 * trick; i < 4 * trick + 4; i++) {
                winner = v.played(i, 0) == v.trick(trick, 2) ? v.played(i, 1) : winner;
            }
            same("the trick " + trick + " of the longest hand", trickOf(v, trick), v.played(4 * trick, 1) + " "
                + winner + " "
                + v.trick(trick, 2) + " " + v.suit(v.played(4 * trick, 0)) + (trick < 10 ? " 2 "
                + (30 - 3 * trick) : " -1 0"));
            due("who leads the next one", trick < 12 ? v.trick(trick + 1, 0) : v.size(10), winner);
        }
    }

    // ---- 20 to 23: tricks, told, result, points

    private void counted() {
        doc.promise(20, "Returns the tricks that a player has in the hand.", () -> {
            FadingTrumps x = game(THREE);
            due("at first", x.tricks(2), 0);
            plays(x, 1, 4);
            due("in a trick", x.tricks(2), 0);
            plays(x, 0);
            due("behind a trick", x.tricks(2), 1);
            due("of another one", x.tricks(1), 0);
            plays(x, 9, 5, 8);
            due("behind the hand", x.tricks(0), 1);
            x.deal(0);
            due("in a new hand", x.tricks(0) + x.tricks(1) + x.tricks(2), 0);
        });
        noPlayer(20, "tricks", FadingTrumps::tricks);
        doc.promise(21, "Returns what a player told in the hand; NONE if they did not.", () -> {
            FadingTrumps x = game("blue 13 2 13;tell 1 0;");
            due("0", x.told(1), 0);
            due("none", x.told(0), NONE);
            x.tell(0, 13);
            due("13", x.told(0), 13);
            x.auto(52);
            due("behind the hand", x.told(0), 13);
            x.deal(0);
            due("in a new hand", x.told(0), NONE);
            due("in a new hand", x.told(1), NONE);
        });
        noPlayer(21, "told", FadingTrumps::told);
        doc.promise(22, "Returns the result of a player in the hand, if it was over with the tricks that they have "
            + "now.", () -> {
            FadingTrumps x = game(THREE + "tell 0 1;tell 2 0;");
            due("0 of 1", x.result(0), -1);
            due("0 of 0", x.result(2), 10);
            due("0", x.result(1), 0);
            plays(x, 1, 4);
            due("in a trick that they would have", x.result(2), 10);
            plays(x, 0);
            due("1 of 0", x.result(2), -1);
            plays(x, 9, 5, 8);
            due("1 of 1 behind the hand", x.result(0), 11);
            x.deal(0);
            due("in a new hand", x.result(0), 0);
        });
        noPlayer(22, "result", FadingTrumps::result);
        doc.promise(23, "Returns the points of a player (of hands that are over).", () -> {
            FadingTrumps x = game(THREE + "tell 0 1;tell 2 0;");
            plays(x, 1, 4, 0, 9, 5);
            due("ahead of the last card", x.points(0), 0);
            plays(x, 8);
            due("behind it", x.points(0), 11);
            due("less than 0", x.points(2), -1);
            due("0", x.points(1), 0);
            x.deal(0);
            x.auto(5);
            due("in a new hand", x.points(0), 11);
        });
        noPlayer(23, "points", FadingTrumps::points);
    }

    // ---- 24 ranking

    private void ranking() {
        doc.promise(24, "Returns the player at a place (from 0) by points, the most first, of several the smallest "
            + "player first.", () -> {
            same("all 0", rankingOf(new FadingTrumps()), "0 1 ");
            same("all 0", rankingOf(game("blue 4 4 3;")), "0 1 2 3 ");
            ranked("one is best", "hand 3 3;hand 0 0;hand 1 1;hand 2 2;", "3 0 1 2 ");
            ranked("the first one is best", "hand 0 3;hand 1 0;hand 2 1;hand 3 2;", "0 1 2 3 ");
            ranked("one is worst", "hand 3 3;hand 0 0;hand 1 1;hand 2 2;tell 0 1;tell 1 0;", "1 3 2 0 ");
            ranked("all the same but one", "hand 0 3;hand 1 0;hand 2 1;hand 3 2;tell 0 0;", "1 2 3 0 ");
            ranked("two pairs", "hand 0 3;hand 1 0;hand 2 1;hand 3 2;tell 1 0;tell 3 0;tell 0 0;tell 2 1;", "1 3 0 2 ");
            ranked("all differ", "hand 1 3;hand 0 0;hand 2 1;hand 3 2;tell 0 1;tell 1 1;tell 3 0;", "1 3 2 0 ");
        });
        doc.promise(24, "Throws `NoSuchElementException` if there is no such place",
            () -> players("ranking", FadingTrumps::ranking));
    }

    /** The ranking behind a hand of one trick. */
    private void ranked(String what, String clauses, String due) {
        FadingTrumps x = game("blue 4 4 1;" + clauses);
        x.auto(4);
        same(what, rankingOf(x), due);
    }

    private String rankingOf(FadingTrumps x) {
        StringBuilder b = new StringBuilder();
        for (int place = 0; place < x.size(1); place++) {
            b.append(x.ranking(place)).append(' ');
        }
        return b.toString();
    }

    // ---- 25 to 27: lacks, could, unseen

    private void known() {
        doc.promise(25, "Returns whether a player is known to lack a suit.", () -> {
            FadingTrumps x = game(THREE);
            no("at first, though they lack it", x.lacks(2, 0));
            plays(x, 1, 4);
            yes("who played another suit", x.lacks(2, 0));
            no("of the suit that they played", x.lacks(2, 1));
            no("of the last suit", x.lacks(2, 3));
            no("who led", x.lacks(1, 0));
            plays(x, 0, 9, 5, 8);
            yes("of the other suit led", x.lacks(0, 2));
            yes("also behind the hand", x.lacks(2, 0));
            FadingTrumps y = game("blue 4 4 1 lead 3;hand 3 15;hand 0 1;hand 1 2;hand 2 14;");
            plays(y, 15, 1, 2, 14);
            yes("of the last suit", y.lacks(0, 3) && y.lacks(1, 3));
            no("who had it", y.lacks(2, 3) || y.lacks(3, 3));
        });
        doc.promise(25, "Throws `NoSuchElementException` if there is no such player or suit", () -> {
            players("lacks", (x, w) -> Check.flag(x.lacks(w, 3)));
            FadingTrumps x = game("blue 9 3 5;");
            only("lacks of a suit", 4, w -> Check.flag(x.lacks(2, w)));
            noSuch("both", () -> Check.flag(x.lacks(3, 4)));
        });
        doc.promise(26, "Returns whether a player can have a card by what all know: it was not played, and they are "
            + "not known to lack its suit; false if they have no cards left.", this::couldHave);
        doc.promise(26, "Throws `NoSuchElementException` if there is no such player or card", () -> {
            players("could", (x, w) -> Check.flag(x.could(w, 15)));
            FadingTrumps x = game("blue 4 2 3;");
            only("could of a card", 16, w -> Check.flag(x.could(1, w)));
            x.auto(52);
            only("could of a card behind the hand", 16, w -> Check.flag(x.could(1, w)));
            noSuch("both", () -> Check.flag(x.could(2, 16)));
            FadingTrumps y = game("blue 13 4 13;");
            only("could of the most", 52, w -> Check.flag(y.could(3, w)));
        });
        doc.promise(27, "Returns how many cards there are that were not played and are not in the hand of a player.",
            () -> {
            FadingTrumps x = game(THREE);
            due("at first", x.unseen(0), 14);
            plays(x, 1);
            due("behind a card of another one", x.unseen(0), 13);
            due("behind an own card", x.unseen(1), 14);
            x.auto(52);
            due("behind the hand", x.unseen(1), 10);
            x.deal(0);
            due("in a new hand", x.unseen(1), 14);
            FadingTrumps y = game("blue 4 2 8;");
            due("all are in hands", y.unseen(0), 8);
            y.auto(52);
            due("all were played", y.unseen(0), 0);
            due("the most", game("blue 13 2 1;").unseen(0), 51);
        });
        noPlayer(27, "unseen", FadingTrumps::unseen);
    }

    private void couldHave() {
        FadingTrumps x = game(THREE);
        for (int card = 0; card < 16; card++) {
            yes("each card at first", x.could(0, card) && x.could(1, card) && x.could(2, card));
        }
        plays(x, 1, 4);
        no("a card that was played", x.could(0, 1) || x.could(0, 4) || x.could(1, 1));
        yes("a card of the suit led, who followed or did not play yet", x.could(0, 3) && x.could(1, 3));
        no("a card of the suit that they lack", x.could(2, 0) || x.could(2, 2) || x.could(2, 3));
        yes("a card of another suit", x.could(2, 5) && x.could(2, 8) && x.could(2, 15));
        plays(x, 0, 9, 5);
        no("who has no cards left", x.could(0, 15) || x.could(2, 15));
        yes("who has one left", x.could(1, 15));
        plays(x, 8);
        no("behind the hand", x.could(1, 15));
        x.deal(0);
        yes("in a new hand", x.could(2, 0) && x.could(2, 1) && x.could(0, 15));
    }

    // ---- 28, 29: isMaster, masters

    private void masters() {
        doc.promise(28, "Returns whether a card is in a hand, and no card in another hand would have as much power or "
            + "more in a trick that it led now.", this::masterCards);
        noCard(28, "isMaster", (x, w) -> Check.flag(x.isMaster(w)));
        doc.promise(29, "Returns how many such cards a player has.", () -> {
            FadingTrumps x = game(THREE);
            same("at first", x.masters(0) + " " + x.masters(1) + " " + x.masters(2), "1 0 0");
            FadingTrumps y = game("blue 13 2 13;hand 0 0 1 2 3 4 5 6 7 8 9 10 11 12;"
                + "hand 1 13 14 15 16 17 18 19 20 21 22 23 24 25;");
            same("all of them", y.masters(0) + " " + y.masters(1), "13 13");
            y.setTrump(1);
            same("all of the trump", y.masters(0) + " " + y.masters(1), "0 13");
            y.auto(52);
            same("behind the hand", y.masters(0) + " " + y.masters(1), "0 0");
        });
        noPlayer(29, "masters", FadingTrumps::masters);
    }

    private String mastersOf(FadingTrumps x) {
        StringBuilder b = new StringBuilder();
        for (int card = 0; card < 4 * x.size(0); card++) {
            b.append(x.isMaster(card) ? card + " " : "");
        }
        return b.toString().trim();
    }

    private void masters(String what, String text, String due) {
        same(what, mastersOf(game(text)), due);
    }

    private void masterCards() {
        same("with a trump", mastersOf(game(THREE)), "5");
        FadingTrumps x = game("blue 4 2 2;hand 0 0 2;hand 1 1 4;");
        same("cards that lie aside do not count", mastersOf(x), "2 4");
        plays(x, 2);
        same("nor does a card that was played", mastersOf(x), "1 4");
        plays(x, 1);
        same("behind a trick", mastersOf(x), "0 4");
        x.auto(52);
        same("behind the hand", mastersOf(x), "");
        masters("of one's own hand none counts", "blue 4 2 2;hand 0 2 3;hand 1 0 1;", "2 3");
        masters("a trump with less power", "blue 4 2 2 trump 1 glow 2;hand 0 3 2;hand 1 4 8;", "3 4 8");
        masters("a trump with as much power", "blue 4 2 2 trump 1 glow 3;hand 0 3 2;hand 1 4 8;", "4 8");
        masters("a trump with more power", "blue 4 2 2 trump 1 glow 4;hand 0 3 2;hand 1 4 8;", "4 8");
        masters("an own trump does not count", "blue 4 2 2 trump 1 glow 9;hand 0 0 4;hand 1 8 12;", "0 4");
        masters("a trump without a glow", "blue 4 2 2 trump 1 glow 0;hand 0 0 1;hand 1 4 8;", "1 4 8");
        masters("the lowest trump counts, too", "blue 4 2 2 trump 0 glow 9;hand 0 15 7;hand 1 0 8;", "0 8");
        masters("all other hands count", "blue 4 4 1;hand 0 2;hand 1 0;hand 2 1;hand 3 3;", "3");
        FadingTrumps y = game("blue 4 2 2 rule 0 trump 0 glow 9;hand 0 12 15;hand 1 8 14;");
        plays(y, 12);
        same("in a trick that it led, not in the present one", mastersOf(y), "8 15");
        FadingTrumps z = game("blue 4 2 2 trump 1 glow 3 fade 3;hand 0 3 2;hand 1 0 4;");
        plays(z, 3, 0);
        same("with the trump as it is now", mastersOf(z), "2 4");
    }

    // ---- 30 darkIn

    private void darkIn() {
        String start = "Returns in how many tricks from now on the glow would become 0 by fading, as it is and with "
            + "FADE as it is ";
        doc.promise(30, start + "(also if it passes to another suit then, and whether there are so many tricks or "
            + "not);", () -> {
            for (int glow = 1; glow <= 30; glow++) {
                for (int fade = 1; fade <= 9; fade++) {
                    int tricks = 0;
                    for (int left = glow; left > 0; left -= fade) {
                        tricks++;
                    }
                    due("the glow " + glow + " and FADE " + fade, dark("trump 1 glow " + glow + " fade " + fade),
                        tricks);
                }
            }
            due("it passes", dark("trump 1 glow 3 fade 2 revive"), 2);
            FadingTrumps x = game("blue 4 2 1 trump 1 glow 30 fade 1;");
            due("there are not so many tricks", x.darkIn(), 30);
            x.auto(1);
            due("in a trick", x.darkIn(), 30);
            x.auto(1);
            due("behind the hand", x.darkIn(), 29);
            x.setFade(9);
            due("with FADE as it is", x.darkIn(), 4);
        });
        doc.promise(30, "0 if it is 0;", () -> {
            due("no trump", dark(""), 0);
            due("the glow 0", dark("trump 1 glow 0"), 0);
            due("the glow 0 and FADE 0", dark("trump 1 glow 0 fade 0"), 0);
            FadingTrumps x = game("blue 4 2 3 trump 1 glow 2;");
            x.auto(2);
            due("a trump that has ended", x.darkIn(), 0);
            x.setFade(0);
            due("a trump that has ended, and FADE 0", x.darkIn(), 0);
        });
        doc.promise(30, "NONE if it is not and FADE is 0.", () -> {
            due("the glow 1 and FADE 0", dark("trump 1 glow 1 fade 0"), NONE);
            due("the glow 30 and FADE 0", dark("trump 1 glow 30 fade 0"), NONE);
            due("the glow 1 and FADE 1", dark("trump 1 glow 1 fade 1"), 1);
        });
    }

    private int dark(String head) {
        return game("blue 4 2 3 " + head + ";").darkIn();
    }

    // ---- 31, 32: sure, sureCard

    private void sure() {
        doc.promise(31, "Returns the sure tricks of the player whose turn it is; NONE if the hand is over, or there "
            + "are more than 12 cards in hands.", () -> {
            for (String head : new String[] {"blue 4 2 7", "blue 4 3 5", "blue 4 4 4", "blue 13 4 13"}) {
                atMostTwelve(head, "sure");
            }
            FadingTrumps x = game("blue 13 2 6;hand 0 7 8 9 10 11 12;hand 1 1 2 3 4 5 6;");
            due("12 cards", x.sure(), 6);
            changesNothing("sure", x, x::sure);
            FadingTrumps y = game("blue 4 2 1;hand 0 3;hand 1 2;");
            due("all tricks", y.sure(), 1);
            plays(y, 3);
            due("none", y.sure(), 0);
            plays(y, 2);
            due("the hand is over", y.sure(), NONE);
            y.deal(0);
            yes("in a new hand", y.sure() >= 0);
        });
        doc.promise(32, "Returns the smallest card with which the player whose turn it is can have their sure tricks;",
            () -> {
            due("each card will do", sureCard("blue 4 2 3;hand 0 11 2 3;hand 1 12 13 14;"), 2);
            due("no card will do", sureCard("blue 4 2 2;hand 0 4 0;hand 1 3 7;"), 0);
            due("the larger one", sureCard("blue 4 2 2;hand 0 1 7;hand 1 2 3;"), 7);
            due("the card with which two will come", sureCard("blue 4 2 2 trump 2 glow 3 fade 3 revive;hand 0 3 "
                + "7;hand 1 1 2;"), 7);
            FadingTrumps x = game("blue 4 2 2;hand 0 1 4;hand 1 0 2 ;");
            plays(x, 1);
            due("of what they may play", x.sureCard(), 2);
            FadingTrumps y = game("blue 4 2 2;hand 0 8 4;hand 1 0 9;");
            plays(y, 8);
            due("not a smaller card that they may not play", y.sureCard(), 9);
            changesNothing("sureCard", y, y::sureCard);
        });
        doc.promise(32, "NONE as sure.", () -> {
            for (String head : new String[] {"blue 4 2 7", "blue 4 3 5", "blue 4 4 4", "blue 13 4 13"}) {
                atMostTwelve(head, "sureCard");
            }
        });
    }

    private int sureCard(String text) {
        return game(text).sureCard();
    }

    /** With 13 cards in hands there is no answer, with 12 and fewer there is, behind the last one there is none. */
    private void atMostTwelve(String head, String what) {
        FadingTrumps x = game(head + ";");
        int cards = x.size(1) * x.size(2);
        for (int left = cards; left >= 0; left--) {
            int answer = what.equals("sure") ? x.sure() : x.sureCard();
            if (left > 12 || left == 0) {
                due(what + " with " + left + " cards", answer, NONE);
            } else if (what.equals("sure")) {
                yes(what + " with " + left + " cards", answer >= 0 && answer <= x.held(x.size(9)));
            } else {
                yes(what + " with " + left + " cards", answer >= 0 && x.isLegal(answer));
            }
            x.auto(1);
        }
    }

    // ---- 33, 34: meanRank, share

    private void dueDouble(String what, double got, double want) {
        due(what, Double.doubleToRawLongBits(got), Double.doubleToRawLongBits(want));
    }

    private void dueFloat(String what, float got, float want) {
        due(what, Float.floatToRawIntBits(got), Float.floatToRawIntBits(want));
    }

    private void means() {
        doc.promise(33, "Returns the ranks of the cards in the hand of a player, added up, divided by their number, "
            + "as doubles (both converted, then divided);", () -> {
            dueDouble("8 / 3", game("blue 9 2 3;hand 0 0 1 4;").meanRank(0), 8.0 / 3.0);
            dueDouble("10 / 7", game("blue 9 2 7;hand 0 0 9 18 27 1 10 19;").meanRank(0), 10.0 / 7.0);
            dueDouble("1", game("blue 4 2 1;hand 0 12;").meanRank(0), 1.0);
            dueDouble("13", game("blue 13 2 1;hand 1 51;").meanRank(1), 13.0);
            dueDouble("91 / 13", game("blue 13 2 13;hand 1 0 1 2 3 4 5 6 7 8 9 10 11 12;").meanRank(1), 7.0);
            FadingTrumps x = game("blue 9 2 3;hand 0 0 1 4;");
            plays(x, 4);
            dueDouble("3 / 2 behind a card", x.meanRank(0), 1.5);
        });
        doc.promise(33, "0 without cards.", () -> {
            FadingTrumps x = game("blue 4 2 1;");
            x.auto(1);
            dueDouble("who has none", x.meanRank(0), 0.0);
            yes("who has one", x.meanRank(1) >= 1.0);
            x.auto(1);
            dueDouble("behind the hand", x.meanRank(1), 0.0);
        });
        noPlayer(33, "meanRank", (x, w) -> (long) x.meanRank(w));
        doc.promise(34, "Returns the tricks of a player divided by all complete tricks of the hand, as floats (both "
            + "converted, then divided);", () -> {
            FadingTrumps x = game("blue 4 2 3;hand 0 0 1 7;hand 1 2 3 6;");
            plays(x, 0, 2);
            dueFloat("0 / 1", x.share(0), 0.0f);
            dueFloat("1 / 1", x.share(1), 1.0f);
            plays(x, 3);
            dueFloat("1 / 1 in the next trick", x.share(1), 1.0f);
            plays(x, 1);
            dueFloat("2 / 2", x.share(1), 1.0f);
            plays(x, 6, 7);
            dueFloat("1 / 3", x.share(0), 1.0f / 3.0f);
            dueFloat("2 / 3", x.share(1), 2.0f / 3.0f);
            FadingTrumps y = game("blue 13 4 13;");
            y.auto(52);
            for (int player = 0; player < 4; player++) {
                dueFloat("of 13", y.share(player), (float) y.tricks(player) / 13.0f);
            }
        });
        doc.promise(34, "0 without any.", () -> {
            FadingTrumps x = game("blue 4 2 3;");
            dueFloat("at first", x.share(0), 0.0f);
            x.auto(1);
            dueFloat("in the first trick", x.share(0), 0.0f);
            x.auto(52);
            x.deal(0);
            dueFloat("in a new hand", x.share(0), 0.0f);
            dueFloat("in a new hand", x.share(1), 0.0f);
        });
        noPlayer(34, "share", (x, w) -> (long) x.share(w));
    }
}
