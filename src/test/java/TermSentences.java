import java.util.ArrayList;
import java.util.List;

/** The sections 1 to 5 of the terms: cards and hands, trumps, tricks, points, sure tricks. */
final class TermSentences extends SentenceTests {
    TermSentences(Doc doc, Check check) {
        super(doc, check);
    }

    @Override
    void all() {
        cards();
        trumps();
        tricks();
        rules();
        points();
        sure();
    }

    // ---- 1 cards and hands

    private void cards() {
        doc.term(1, "There are four suits, 0 sky, 1 sea, 2 ink and 3 ash, of RANKS cards each (4 to 13).", this::suits);
        doc.term(1, "Cards are numbered from 0: a card has the suit card / RANKS and the rank card % RANKS + 1.",
            this::numbers);
        doc.term(1, "There are 2 to 4 players, numbered from 0.", this::players);
        doc.term(1, "In a hand each of them gets HELD cards (1 to 13; all together at most as many as there are); the "
            + "other cards lie aside.", this::heldCards);
        doc.term(1, "A hand is over when all of these cards have been played.", this::handIsOver);
        doc.term(1, "Cards are dealt by a seed (0 to 99999): the cards lie in a row, by their numbers; x is the seed "
            + "at first; for each place k from the last one down to 1, x becomes (x * 1103 + 12345) modulo 100003, "
            + "and the card at the place k is exchanged with the one at the place x modulo (k + 1).", this::seeds);
        doc.term(1, "Then the cards from the place 0 on go to the players in turn, one each, beginning with the "
            + "player 0.", this::handedOut);
    }

    private void suits() {
        range("blue ", 4, 13, " 2 1;");
        for (int ranks = 4; ranks <= 13; ranks++) {
            FadingTrumps x = game("blue " + ranks + " 2 1;");
            due("the last card", x.suit(4 * ranks - 1), 3);
            noSuch("a fifth suit", () -> x.suit(4 * x.size(0)));
            noSuch("cards of a fifth suit", () -> x.ofSuit(0, 4));
        }
    }

    private void numbers() {
        for (int ranks = 4; ranks <= 13; ranks++) {
            FadingTrumps x = game("blue " + ranks + " 2 1;");
            int card = 0;
            for (int suit = 0; suit < 4; suit++) {
                for (int rank = 1; rank <= ranks; rank++) {
                    due("the suit of " + card, x.suit(card), suit);
                    due("the rank of " + card, x.rank(card), rank);
                    card++;
                }
            }
        }
    }

    private void players() {
        range("blue 4 ", 2, 4, " 1;");
        for (int players = 2; players <= 4; players++) {
            FadingTrumps x = game("blue 4 " + players + " 1;");
            due("players", x.size(1), players);
            only("held of " + players + " players", players, x::held);
        }
    }

    private void heldCards() {
        for (int ranks = 4; ranks <= 13; ranks++) {
            for (int players = 2; players <= 4; players++) {
                for (int held = 0; held <= 15; held++) {
                    heldCards(ranks, players, held);
                }
            }
        }
    }

    private void heldCards(int ranks, int players, int held) {
        String head = "blue " + ranks + " " + players + " ";
        if (held < 1 || held > 13 || held * players > 4 * ranks) {
            fails(head + held + ";", 2, head.length());
            return;
        }
        FadingTrumps x = game(head + held + ";");
        int aside = 0;
        for (int card = 0; card < 4 * ranks; card++) {
            aside += x.holder(card) == NONE ? 1 : 0;
        }
        due("cards that lie aside of " + head + held, aside, 4 * ranks - players * held);
        for (int player = 0; player < players; player++) {
            due("held(" + player + ") of " + head + held, x.held(player), held);
        }
    }

    private void handIsOver() {
        overBehind("blue 4 2 1;", 2);
        overBehind("blue 4 4 4;", 16);
        overBehind("blue 13 4 13;", 52);
        overBehind("blue 13 3 13;", 39);
        FadingTrumps x = game("blue 4 2 2;hand 0 3 7;hand 1 0 4;");
        plays(x, 3, 0, 7);
        due("the hand is not over ahead of the last card", x.size(9), 1);
        plays(x, 4);
        due("the hand is over behind the last card", x.size(9), NONE);
    }

    private void overBehind(String text, int cards) {
        FadingTrumps x = game(text);
        if (cards > 1) {
            due("cards ahead of the last one", x.auto(cards - 1), cards - 1);
        }
        yes("the hand is not over: " + text, x.size(9) != NONE);
        due("hands that are over", x.size(13), 0);
        due("a deal too early", x.deal(0), -2);
        due("the last card", x.auto(1), 1);
        due("the hand is over: " + text, x.size(9), NONE);
        due("hands that are over", x.size(13), 1);
        due("no more cards", x.auto(1), -2);
        yes("a deal", x.deal(0) >= 0);
    }

    /** The row of cards behind the exchanges, told as plainly as the document does. */
    static int[] rowOf(int seed, int cards) {
        int[] row = new int[cards];
        for (int card = 0; card < cards; card++) {
            row[card] = card;
        }
        long x = seed;
        for (int k = cards - 1; k >= 1; k--) {
            x = (x * 1103 + 12345) % 100003;
            int other = (int) (x % (k + 1));
            int card = row[k];
            row[k] = row[other];
            row[other] = card;
        }
        return row;
    }

    static String dealt(int[] row, int players, int held) {
        List<List<Integer>> hands = new ArrayList<>();
        for (int player = 0; player < players; player++) {
            hands.add(new ArrayList<>());
        }
        for (int place = 0; place < players * held; place++) {
            hands.get(place % players).add(row[place]);
        }
        StringBuilder b = new StringBuilder();
        for (List<Integer> hand : hands) {
            hand.sort(null);
            b.append(b.length() > 0 ? "/" : "").append(hand.toString().replaceAll("[\\[\\],]", ""));
        }
        return b.toString();
    }

    private void seeds() {
        range("blue 4 2 3 seed ", 0, 99999, ";");
        int[] seeds = {0, 1, 2, 7, 90, 12345, 45678, 99997, 99998, 99999};
        for (int seed : seeds) {
            for (int ranks = 4; ranks <= 13; ranks++) {
                String text = "blue " + ranks + " 4 " + ranks + " seed " + seed + ";";
                same("the hands of " + text, handsOf(game(text)),
                    dealt(rowOf(seed, 4 * ranks), 4, ranks));
            }
        }
        FadingTrumps x = game("blue 4 2 1;");
        for (int seed : seeds) {
            x.auto(2);
            due("who leads", x.deal(seed), x.size(10));
            same("the hands dealt by " + seed, handsOf(x), dealt(rowOf(seed, 16), 2, 1));
        }
        x.auto(2);
        illegalOutside("deal", 0, 99999, x::deal);
    }

    private void handedOut() {
        // the row of the seed 7 begins 7 13 4 9 0 11 ..
        same("3 players", handsOf(game("blue 4 3 2 seed 7;")), "7 9/0 13/4 11");
        same("2 players", handsOf(game("blue 4 2 3 seed 7;")), "0 4 7/9 11 13");
        same("one card each", handsOf(game("blue 4 4 1 seed 7;")), "7/13/4/9");
        for (int players = 2; players <= 4; players++) {
            for (int held = 1; held <= 13; held++) {
                same("all hands", handsOf(game("blue 13 " + players + " " + held + " seed 31;")),
                    dealt(rowOf(31, 52), players, held));
            }
        }
    }

    // ---- 2 trumps

    private void trumps() {
        doc.term(2, "There is a trump suit or none, and a glow (0 to 30).", this::trumpAndGlow);
        doc.term(2, "When a hand begins, the trump is the one that was told (or none), and the glow is GLOW (0 to "
            + "30); without a trump it is 0.", this::atTheBeginning);
        doc.term(2, "Behind each trick the glow becomes FADE (0 to 9) less, but not less than 0;", this::fades);
        doc.term(2, "if it was above 0 and is 0 then, there is no trump any more;", this::endsAtZero);
        doc.term(2, "but if REVIVE is on, the suit of the card that won this trick is the trump then, with the glow "
            + "GLOW.", this::revives);
    }

    private void trumpAndGlow() {
        range("blue 4 2 3 trump ", 0, 3, ";");
        range("blue 4 2 3 trump 1 glow ", 0, 30, ";");
        same("no trump", lightOf(game("blue 4 2 3;")), NONE + " 0");
        for (int suit = 0; suit < 4; suit++) {
            same("a trump", lightOf(game("blue 4 2 3 trump " + suit + ";")), suit + " 10");
            same("the most glow", lightOf(game("blue 4 2 3 trump " + suit + " glow 30;")), suit + " 30");
            same("the least glow", lightOf(game("blue 4 2 3 trump " + suit + " glow 0;")), suit + " 0");
        }
    }

    private void atTheBeginning() {
        FadingTrumps x = game("blue 4 2 3;");
        due("GLOW without a trump", x.size(6), 10);
        due("the glow without a trump", x.size(5), 0);
        x.setTrump(2);
        same("a trump that was told", lightOf(x), "2 10");
        x.setTrump(NONE);
        same("none that was told", lightOf(x), "-1 0");
        FadingTrumps y = game("blue 4 2 3 trump 1 glow 4 fade 4;");
        y.auto(52);
        same("behind a hand", lightOf(y), "-1 0");
        y.deal(0);
        same("in a new hand", lightOf(y), "1 4");
        FadingTrumps z = game("blue 4 2 1 trump 1 glow 4 fade 4 revive;hand 0 15;hand 1 0;");
        plays(z, 15, 0);
        same("that passed to another suit", lightOf(z), "3 4");
        z.deal(0);
        same("in a new hand, not the one it passed to", lightOf(z), "1 4");
        z.setTrump(NONE);
        z.auto(2);
        z.deal(0);
        same("in a new hand without a trump", lightOf(z), "-1 0");
        FadingTrumps w = game("blue 4 2 1 trump 1 glow 0;");
        w.auto(2);
        w.deal(0);
        same("in a new hand with GLOW 0", lightOf(w), "1 0");
    }

    /** The glow ahead of each trick and behind the last one. */
    private String glowsOf(String text) {
        FadingTrumps x = game(text);
        StringBuilder b = new StringBuilder().append(x.size(5));
        while (x.size(9) != NONE) {
            x.auto(x.size(1));
            b.append(' ').append(x.size(5));
        }
        return b.toString();
    }

    private void fades() {
        range("blue 4 2 3 trump 1 fade ", 0, 9, ";");
        same("fade 2", glowsOf("blue 4 2 5 trump 1 glow 5 fade 2;"), "5 3 1 0 0 0");
        same("fade 0", glowsOf("blue 4 2 3 trump 1 glow 5 fade 0;"), "5 5 5 5");
        same("the glow 0 and fade 0", glowsOf("blue 4 2 3 trump 1 glow 0 fade 0;"), "0 0 0 0");
        same("just to 0", glowsOf("blue 4 2 2 trump 1 glow 9 fade 9;"), "9 0 0");
        same("not to 0", glowsOf("blue 4 2 2 trump 1 glow 10 fade 9;"), "10 1 0");
        same("not below 0", glowsOf("blue 4 2 2 trump 1 glow 1 fade 9;"), "1 0 0");
        same("the most", glowsOf("blue 4 3 4 trump 1 glow 30 fade 9;"), "30 21 12 3 0");
        same("none at first", glowsOf("blue 4 2 2;"), "0 0 0");
        FadingTrumps x = game("blue 4 3 1 trump 1 glow 5 fade 2;");
        x.auto(2);
        due("not within a trick", x.size(5), 5);
        x.auto(1);
        due("also behind the last trick", x.size(5), 3);
        FadingTrumps y = game("blue 4 2 3 trump 1 glow 5 fade 2;");
        y.auto(1);
        y.setFade(1);
        y.auto(1);
        due("FADE as it is behind the trick", y.size(5), 4);
    }

    private void endsAtZero() {
        FadingTrumps x = game("blue 4 2 3 trump 2 glow 3 fade 2;");
        x.auto(2);
        same("above 0 it stays", lightOf(x), "2 1");
        x.auto(2);
        same("at 0 there is none", lightOf(x), "-1 0");
        x.auto(2);
        same("nor later", lightOf(x), "-1 0");
        FadingTrumps y = game("blue 4 2 3 trump 2 glow 4 fade 4;");
        y.auto(2);
        same("just at 0 there is none", lightOf(y), "-1 0");
        FadingTrumps z = game("blue 4 2 3 trump 2 glow 0 fade 9;");
        z.auto(2);
        same("it was not above 0", lightOf(z), "2 0");
        z.auto(4);
        same("it was not above 0 behind the last trick", lightOf(z), "2 0");
        FadingTrumps w = game("blue 4 2 2 trump 2 glow 6 fade 3;");
        w.auto(4);
        same("behind the last trick", lightOf(w), "-1 0");
    }

    private void revives() {
        FadingTrumps x = game("blue 4 2 3 trump 2 glow 3 fade 2 revive;hand 0 0 1 2;hand 1 5 6 3;");
        plays(x, 0, 3);
        same("above 0 it stays", lightOf(x), "2 1");
        plays(x, 5, 1);
        same("at 0 it passes to the suit that won", lightOf(x), "1 3");
        plays(x, 6, 2);
        same("and fades there", lightOf(x), "1 1");
        FadingTrumps y = game("blue 4 2 2 rule 0 trump 3 glow 2 fade 9 revive;hand 0 0 4;hand 1 12 5;");
        plays(y, 0, 12);
        same("the suit that won is not the one that was led", lightOf(y), "3 2");
        plays(y, 5, 4);
        same("it passes behind the last trick, too", lightOf(y), "1 2");
        FadingTrumps z = game("blue 4 2 2 trump 3 glow 0 revive;");
        z.auto(4);
        same("with GLOW 0 it was not above 0", lightOf(z), "3 0");
        FadingTrumps w = game("blue 4 2 2 trump 3 glow 30 fade 0 revive;");
        w.auto(4);
        same("it does not fade", lightOf(w), "3 30");
        FadingTrumps v = new FadingTrumps();
        v.setRevive(true);
        v.auto(2);
        same("of none", lightOf(v), "-1 0");
        revivesAsItIs();
    }

    private void revivesAsItIs() {
        FadingTrumps x = game("blue 4 2 3 trump 2 glow 2;hand 0 3 1 2;hand 1 0 5 6;");
        x.play(3);
        x.setRevive(true);
        x.play(0);
        same("REVIVE that is on as the trick ends", lightOf(x), "0 2");
        x.setRevive(false);
        plays(x, 1, 5);
        same("REVIVE that is off as the trick ends", lightOf(x), "-1 0");
        x.setRevive(true);
        plays(x, 2, 6);
        same("what has ended comes not back", lightOf(x), "-1 0");
    }

    // ---- 3 tricks

    private void tricks() {
        doc.term(3, "The player who leads plays a card, then the others in turn (behind the last player comes the "
            + "player 0).", this::turns);
        doc.term(3, "The suit of the first card is led.", this::suitLed);
        doc.term(3, "The power of a card in a trick is its rank plus the glow, if its suit is the trump; its rank, if "
            + "its suit is led and is not the trump; otherwise 0.", this::powers);
        doc.term(3, "The card with the greatest power wins, of several the one played first; who played it has the "
            + "trick, and leads the next one.", this::winners);
        doc.term(3, "The first trick is led by LEAD (a player).", this::firstLead);
    }

    private String turnsOf(FadingTrumps x, int cards) {
        StringBuilder b = new StringBuilder();
        for (int i = 0; i < cards; i++) {
            b.append(x.size(9)).append(' ');
            x.auto(1);
        }
        return b.toString().trim();
    }

    private void turns() {
        same("4 players", turnsOf(game("blue 4 4 4 lead 2;"), 4), "2 3 0 1");
        same("4 players, the last one leads", turnsOf(game("blue 4 4 4 lead 3;"), 4), "3 0 1 2");
        same("4 players, the first one leads", turnsOf(game("blue 4 4 4;"), 4), "0 1 2 3");
        same("3 players", turnsOf(game("blue 4 3 4 lead 2;"), 3), "2 0 1");
        same("2 players", turnsOf(game("blue 4 2 4 lead 1;"), 2), "1 0");
        FadingTrumps x = game("blue 4 4 1 lead 3;hand 3 3;hand 0 2;hand 1 1;hand 2 0;");
        due("play of who leads", x.play(3), 4 + 0);
        due("play of the next", x.play(2), 4 + 1);
        due("play of the next", x.play(1), 4 + 2);
        due("play of the last", x.play(0), 3);
    }

    private void suitLed() {
        FadingTrumps x = game("blue 4 3 2 rule 0 trump 3;hand 0 8 9;hand 1 12 13;hand 2 0 1;");
        due("led ahead of the trick", x.led(), NONE);
        plays(x, 8);
        due("led behind the first card", x.led(), 2);
        plays(x, 13);
        due("led behind a trump", x.led(), 2);
        plays(x, 0);
        due("led behind the trick", x.led(), NONE);
        due("led in the trick", x.trick(0, 3), 2);
        plays(x, 12);
        due("led in the next one", x.led(), 3);
    }

    private void powers() {
        FadingTrumps x = game("blue 13 2 2 rule 0 trump 1 glow 30 fade 9;hand 0 0 1;hand 1 13 14;");
        plays(x, 0);
        due("the highest trump", x.power(25), 43);
        due("the lowest trump", x.power(13), 31);
        due("the suit led", x.power(12), 13);
        due("the lowest of the suit led", x.power(0), 1);
        due("another suit", x.power(38), 0);
        due("another suit", x.power(51), 0);
        plays(x, 13);
        plays(x, 14);
        due("the trump is led", x.power(25), 13 + 21);
        due("another suit than the trump", x.power(12), 0);
        FadingTrumps y = game("blue 4 2 2 trump 1 glow 0;hand 0 0 1;hand 1 4 5;");
        plays(y, 0);
        due("a trump without a glow", y.power(7), 4);
        due("the lowest trump without a glow", y.power(4), 1);
        FadingTrumps z = game("blue 4 2 2;hand 0 0 1;hand 1 4 5;");
        plays(z, 0);
        due("no trump", z.power(7), 0);
    }

    /** The player who wins the trick of these cards, led by the player 0. */
    private int winnerOf(String head, int... cards) {
        StringBuilder text = new StringBuilder("blue 4 " + cards.length + " 1 rule 0 " + head + ";");
        for (int player = 0; player < cards.length; player++) {
            text.append("hand ").append(player).append(' ').append(cards[player]).append(';');
        }
        FadingTrumps x = game(text.toString());
        for (int card : cards) {
            x.play(card);
        }
        due("who has the trick", x.trick(0, 1), x.size(10));
        due("the tricks of who has it", x.tricks(x.size(10)), 1);
        due("the card that won", x.trick(0, 2), cards[x.size(10)]);
        return x.size(10);
    }

    private void winners() {
        due("the highest of the suit led", winnerOf("", 1, 3, 2), 1);
        due("the last one", winnerOf("", 1, 2, 3), 2);
        due("the first one", winnerOf("", 3, 2, 1), 0);
        due("other suits have no power", winnerOf("", 0, 7, 11, 15), 0);
        due("a trump", winnerOf("trump 1 glow 10", 3, 4, 2), 1);
        due("the highest trump", winnerOf("trump 1 glow 10", 3, 4, 5, 15), 2);
        due("a trump with less power", winnerOf("trump 1 glow 1", 3, 4), 0);
        due("a trump with as much power behind", winnerOf("trump 1 glow 2", 3, 5), 0);
        due("a trump with as much power ahead", winnerOf("trump 1 glow 2", 0, 5, 3), 1);
        due("a trump with more power", winnerOf("trump 1 glow 3", 3, 5), 1);
        due("a trump with as much power, three of them", winnerOf("trump 1 glow 0", 2, 6, 1, 5), 0);
        due("a trump without a glow", winnerOf("trump 1 glow 0", 2, 7), 1);
        due("a trump that is led", winnerOf("trump 1 glow 0", 4, 3), 0);
        FadingTrumps x = game("blue 4 3 2;hand 0 0 4;hand 1 1 5;hand 2 2 6;");
        plays(x, 0, 1);
        due("play of the last card", x.play(2), 2);
        due("who leads the next one", x.size(9), 2);
        plays(x, 6, 4);
        due("play of the last card", x.play(5), 2);
        due("who would lead the next one", x.size(10), 2);
    }

    private void firstLead() {
        for (int players = 2; players <= 4; players++) {
            range("blue 4 " + players + " 2 lead ", 0, players - 1, ";");
            for (int player = 0; player < players; player++) {
                FadingTrumps x = game("blue 4 " + players + " 2 lead " + player + ";");
                due("who leads", x.size(10), player);
                due("whose turn it is", x.size(9), player);
                x.auto(players);
                due("who led the first trick", x.trick(0, 0), player);
            }
        }
    }

    // ---- 3 rules

    private void rules() {
        doc.term(3, "The rule tells what one who does not lead may play: 0 any card.", this::ruleAny);
        doc.term(3, "1 a card of the suit that is led, if they have one; otherwise any.", this::ruleFollow);
        doc.term(3, "2 as with 1, but if they have cards of the suit that is led with more power than the greatest "
            + "one in the trick so far, one of these.", this::ruleHigher);
        doc.term(3, "3 as with 1, but if they have no card of the suit that is led, and have one of the trump, one of "
            + "the trump.", this::ruleTrump);
        doc.term(3, "A player is known to lack a suit in a hand if, with a rule other than 0 as that card was played, "
            + "they played a card of another suit in a trick in which it was led.", this::knownLacks);
    }

    /** What player 1 may play behind the card that player 0 leads. */
    private String answering(String head, int led, String hand) {
        FadingTrumps x = game("blue 4 2 3 " + head + ";hand 0 " + led + ";hand 1 " + hand + ";");
        x.play(led);
        return legalOf(x);
    }

    /** What player 2 may play behind two cards. */
    private String answeringTwo(String head, int led, int second, String hand) {
        FadingTrumps x = game("blue 4 3 3 " + head + ";hand 0 9 10 " + led + ";hand 1 12 13 " + second
            + ";hand 2 " + hand + ";");
        plays(x, led, second);
        return legalOf(x);
    }

    private void ruleAny() {
        range("blue 4 2 3 rule ", 0, 3, ";");
        same("any card", answering("rule 0 trump 2", 1, "0 3 4"), "0 3 4");
        same("any card", answering("rule 0 trump 1", 15, "0 4 12"), "0 4 12");
        for (int rule = 0; rule <= 3; rule++) {
            FadingTrumps x = game("blue 4 2 4 rule " + rule + " trump 1;hand 0 0 4 8 12;");
            same("who leads, with the rule " + rule, legalOf(x), "0 4 8 12");
        }
    }

    private void ruleFollow() {
        same("of several", answering("rule 1 trump 1", 1, "0 3 4"), "0 3");
        same("the only one", answering("rule 1 trump 1", 1, "2 4 5"), "2");
        same("none", answering("rule 1 trump 1", 1, "4 8 12"), "4 8 12");
        same("the trump is led", answering("rule 1 trump 1", 4, "5 8 12"), "5");
        same("the first and the last card of the suit", answering("rule 1", 9, "8 11 12"), "8 11");
        same("beside the suit", answering("rule 1", 9, "7 12 15"), "7 12 15");
        same("the last suit", answering("rule 1", 13, "11 12 15"), "12 15");
        same("not in the own hand, but in the other one", answering("rule 1", 0, "4 5 6"), "4 5 6");
    }

    private void ruleHigher() {
        same("one higher", answering("rule 2", 1, "0 3 4"), "3");
        same("two higher", answering("rule 2", 1, "2 3 4"), "2 3");
        same("all higher", answering("rule 2", 0, "1 2 3"), "1 2 3");
        same("none higher", answering("rule 2", 3, "0 2 4"), "0 2");
        same("none of the suit", answering("rule 2 trump 1", 3, "4 8 12"), "4 8 12");
        same("the trump is led", answering("rule 2 trump 1 glow 30", 5, "4 6 8"), "6");
        same("the highest trump is led", answering("rule 2 trump 1 glow 30", 7, "4 6 8"), "4 6");
        same("the trump is led without a glow", answering("rule 2 trump 1 glow 0", 5, "4 6 8"), "6");
        same("the last suit is led", answering("rule 2", 13, "12 14 15"), "14 15");
        String trump = "rule 2 trump 1 glow ";
        same("a trump of the power 1", answeringTwo(trump + 0, 0, 4, "1 3 8"), "1 3");
        same("a trump of the power 2", answeringTwo(trump + 1, 0, 4, "1 3 8"), "3");
        same("a trump of the power 3", answeringTwo(trump + 2, 0, 4, "1 3 8"), "3");
        same("a trump of the power 4 is as high as the highest", answeringTwo(trump + 3, 0, 4, "1 3 8"), "1 3");
        same("a trump of the power 5", answeringTwo(trump + 4, 0, 4, "1 3 8"), "1 3");
        same("a trump of the power 34", answeringTwo(trump + 30, 0, 7, "1 3 8"), "1 3");
        same("a trump with less power than the card led", answeringTwo(trump + 0, 2, 4, "1 3 8"), "3");
        same("the second card is higher", answeringTwo("rule 2", 0, 2, "1 3 8"), "3");
        same("another suit has no power", answeringTwo("rule 2", 0, 15, "1 3 8"), "1 3");
        same("no trump higher, none of the suit", answeringTwo(trump + 5, 0, 4, "7 8 11"), "7 8 11");
    }

    private void ruleTrump() {
        same("of the suit led", answering("rule 3 trump 1", 1, "0 3 4"), "0 3");
        same("of the suit led, not only higher ones", answering("rule 3 trump 1", 2, "0 1 3"), "0 1 3");
        same("of the trump", answering("rule 3 trump 1", 1, "4 7 12"), "4 7");
        same("the only one of the trump", answering("rule 3 trump 1", 1, "5 8 12"), "5");
        same("none of both", answering("rule 3 trump 1", 1, "8 11 12"), "8 11 12");
        same("no trump", answering("rule 3", 1, "4 8 12"), "4 8 12");
        same("the trump is led", answering("rule 3 trump 0", 1, "4 8 12"), "4 8 12");
        same("the trump is led, and they have it", answering("rule 3 trump 0", 1, "0 8 12"), "0");
        same("a trump without a glow", answering("rule 3 trump 1 glow 0", 1, "4 8 12"), "4");
        FadingTrumps x = game("blue 4 2 2 rule 3 trump 1 glow 2;hand 0 3 2;hand 1 4 12;");
        plays(x, 3);
        same("a trump that glows", legalOf(x), "4");
        FadingTrumps y = game("blue 4 2 3 rule 3 trump 1 glow 2;hand 0 2 3 0;hand 1 1 4 12;");
        plays(y, 2, 1, 3);
        same("a trump that has ended", legalOf(y), "4 12");
        FadingTrumps z = game("blue 4 2 3 rule 3 trump 1 glow 2 revive;hand 0 8 11 0;hand 1 10 4 1;");
        plays(z, 11, 10, 8);
        same("a trump that passed to the suit led", legalOf(z), "1 4");
        FadingTrumps w = game("blue 4 2 3 rule 3 trump 1 glow 2 revive;hand 0 0 3 8;hand 1 2 1 4;");
        plays(w, 3, 2, 8);
        same("a trump that passed", legalOf(w), "1");
    }

    private void knownLacks() {
        for (int rule = 0; rule <= 3; rule++) {
            FadingTrumps x = game("blue 4 2 2 rule " + rule + " trump 1;hand 0 0 8;hand 1 4 9;");
            plays(x, 0);
            no("ahead of the card, with the rule " + rule, x.lacks(1, 0));
            plays(x, 4);
            due("with the rule " + rule, Check.flag(x.lacks(1, 0)), rule == 0 ? 0 : 1);
            no("the suit that they played", x.lacks(1, 1));
            no("who led", x.lacks(0, 0) || x.lacks(0, 1));
            x.setRule(rule == 0 ? 1 : 0);
            due("another rule later, behind the rule " + rule, Check.flag(x.lacks(1, 0)), rule == 0 ? 0 : 1);
            plays(x, 9);
            no("who leads another suit", x.lacks(1, 1));
            plays(x, 8);
            no("who plays of the suit led", x.lacks(0, 2));
            due("behind the hand, with the rule " + rule, Check.flag(x.lacks(1, 0)), rule == 0 ? 0 : 1);
            x.deal(0);
            no("in a new hand", x.lacks(1, 0));
        }
        FadingTrumps x = game("blue 4 3 2 rule 0;hand 0 3 0;hand 1 4 5;hand 2 12 8;");
        plays(x, 3, 4, 12);
        x.setRule(2);
        plays(x, 0, 5, 8);
        yes("with a rule as that card was played", x.lacks(1, 0) && x.lacks(2, 0));
    }

    // ---- 4 points

    private void points() {
        doc.term(4, "Ahead of the first card of a hand, players can tell how many tricks they will have.",
            this::tellings);
        doc.term(4, "The result of a player in a hand: if they told, 10 plus what they told, if they have just so "
            + "many tricks, otherwise minus the difference;", this::resultsOfTold);
        doc.term(4, "if they did not tell, the number of their tricks.", this::resultsOfSilent);
        doc.term(4, "When the hand is over, the results come to the points of the players (0 at first).",
            this::pointsCome);
    }

    private void tellings() {
        FadingTrumps x = game("blue 4 2 3;");
        due("at first", x.tell(1, 3), 0);
        x.auto(1);
        due("behind the first card", x.tell(1, 2), -2);
        due("who did not tell, behind the first card", x.tell(0, 2), -2);
        x.undo();
        due("the first card is undone", x.tell(1, 0), 4);
        x.auto(52);
        due("behind the last card", x.tell(1, 2), -2);
        x.deal(0);
        due("in a new hand", x.tell(1, 2), 0);
    }

    /** The player 0 has all tricks of the longest hand. */
    private FadingTrumps longest(String tells) {
        FadingTrumps x = game("blue 13 2 13;hand 0 0 1 2 3 4 5 6 7 8 9 10 11 12;"
            + "hand 1 13 14 15 16 17 18 19 20 21 22 23 24 25;" + tells);
        x.auto(52);
        due("all tricks", x.tricks(0), 13);
        return x;
    }

    private void resultsOfTold() {
        FadingTrumps x = longest("tell 0 13;tell 1 0;");
        due("13 of 13", x.result(0), 23);
        due("0 of 0", x.result(1), 10);
        x = longest("tell 0 0;tell 1 13;");
        due("13 of 0", x.result(0), -13);
        due("0 of 13", x.result(1), -13);
        x = longest("tell 0 12;tell 1 1;");
        due("13 of 12", x.result(0), -1);
        due("0 of 1", x.result(1), -1);
        due("the points of less than 0", x.points(1), -1);
        FadingTrumps y = game("blue 4 2 2;tell 0 1;tell 1 1;hand 0 3 4;hand 1 2 7;");
        due("0 of 1 ahead of the hand", y.result(0), -1);
        plays(y, 3, 2);
        due("1 of 1 in the hand", y.result(0), 11);
        due("0 of 1 in the hand", y.result(1), -1);
        plays(y, 4, 7);
        due("1 of 1", y.result(1), 11);
    }

    private void resultsOfSilent() {
        FadingTrumps x = longest("");
        due("13", x.result(0), 13);
        due("0", x.result(1), 0);
        x = longest("tell 1 0;");
        due("13, as another one told", x.result(0), 13);
        due("0 ahead of the hand", new FadingTrumps().result(0), 0);
    }

    private void pointsCome() {
        FadingTrumps x = game("blue 4 2 2 lead 1;tell 0 1;hand 0 3 4;hand 1 2 7;");
        due("0 at first", x.points(0), 0);
        due("0 at first", x.points(1), 0);
        plays(x, 2, 3, 4);
        due("ahead of the end of the hand", x.points(0), 0);
        plays(x, 7);
        due("behind the hand", x.points(0), 11);
        due("behind the hand", x.points(1), 1);
        x.deal(0);
        due("in a new hand", x.points(0), 11);
        x.tell(1, 2);
        x.auto(52);
        due("of two hands", x.points(0), 11 + x.result(0));
        due("of two hands", x.points(1), 1 + x.result(1));
        due("the results stay", x.result(0), x.tricks(0));
        FadingTrumps y = longest("tell 0 0;");
        y.deal(1);
        y.tell(0, 0);
        due("below 0 in a new hand", y.points(0), -13);
    }

    // ---- 5 sure tricks

    private void sure() {
        doc.term(5, "The sure tricks of the player whose turn it is: how many of the present trick (if it is not "
            + "complete) and of all later ones they can have, however the others play, if all know all hands, and all "
            + "play as the rule lets.", this::sureTricks);
    }

    private void sure(String text, int due) {
        due("sure() of " + text, game(text).sure(), due);
    }

    private void sureTricks() {
        sure("blue 4 2 1;hand 0 3;hand 1 2;", 1);
        sure("blue 4 2 1;hand 0 2;hand 1 3;", 0);
        sure("blue 13 2 6;hand 0 7 8 9 10 11 12;hand 1 1 2 3 4 5 6;", 6);
        sure("blue 13 2 6 lead 1;hand 0 7 8 9 10 11 12;hand 1 1 2 3 4 5 6;", 0);
        sure("blue 4 4 3;hand 0 0 4 8;hand 1 3 5 9;hand 2 1 7 10;hand 3 2 6 11;", 0);
        sure("blue 4 4 3 lead 2;hand 2 3 7 11;hand 0 0 4 8;hand 1 1 5 9;hand 3 2 6 10;", 3);
        // with the rule 1 the player 1 must follow and so gives both, with the rule 0 they keep what they want
        sure("blue 4 2 2 rule 1;hand 0 2 5;hand 1 1 6;", 1);
        sure("blue 4 2 2 rule 1 trump 1 fade 0;hand 0 2 3;hand 1 1 4;", 1);
        sure("blue 4 2 2 rule 0 trump 1 fade 0;hand 0 2 3;hand 1 1 4;", 1);
        sure("blue 4 2 2 rule 1 trump 1 glow 2 fade 2;hand 0 2 3;hand 1 1 4;", 2);
        sure("blue 4 2 2 rule 0 trump 1 glow 2 fade 2;hand 0 1 3;hand 1 2 4;", 1);
        FadingTrumps x = game("blue 4 2 2;hand 0 1 4;hand 1 2 7;");
        plays(x, 1);
        due("the present trick counts", x.sure(), 2);
        plays(x, 2);
        due("a trick that is complete does not", x.sure(), 1);
        FadingTrumps y = game("blue 4 3 1;hand 0 0;hand 1 1;hand 2 2;");
        plays(y, 0);
        due("whose turn it is, not who has the trick so far", y.sure(), 0);
        plays(y, 1);
        due("the last card of the hand", y.sure(), 1);
        plays(y, 2);
        due("behind the hand", y.sure(), NONE);
        // one of the others gives a trick with their smallest card, and none with a larger one
        sure("blue 4 2 2 lead 1;hand 0 1 4;hand 1 0 7;", 1);
        sure("blue 4 2 3 rule 0;hand 0 2 5 10;hand 1 0 3 15;", 2);
        for (int seed = 0; seed < 60; seed++) {
            String rule = " rule " + seed % 4;
            String revive = seed % 3 == 0 ? " revive" : "";
            sureAsModel("blue 4 2 4" + rule + " trump 1 glow 3 fade 2" + revive + " seed " + seed + ";");
            sureAsModel("blue 5 3 3" + rule + " trump 2 glow 4 fade 4" + revive + " seed " + seed + ";");
            sureAsModel("blue 4 4 2" + rule + " seed " + seed + ";");
        }
    }

    /** The model plays everything out, card by card. */
    private void sureAsModel(String text) {
        FadingTrumps x = game(text);
        Model m = new Model();
        for (int i = 0; i < text.length(); i += 20) {
            m.feed(Check.words(text, i));
        }
        due("the model's load", m.load(text.length()), x.size(1) * x.size(2));
        for (int played = 0; played < 4; played++) {
            due("sure() behind " + played + " cards of " + text, x.sure(), m.sure());
            due("sureCard() behind " + played + " cards of " + text, x.sureCard(), m.sureCard());
            x.auto(1);
            m.auto(1);
        }
    }
}
