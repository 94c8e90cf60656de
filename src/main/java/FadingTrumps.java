import java.util.NoSuchElementException;

/**
 * A game of tricks with blue cards of four suits and a trump whose glow fades. What it promises stands in DOC.md; how
 * to use it, in README.md. Every row is made in the constructor and used again, so that a call makes no objects but
 * the exception that it throws.
 */
public final class FadingTrumps {
    public static final int NONE = -1;
    public static final int HIDDEN = -1000000000;

    private static final int SUITS = 4;
    private static final int MOST_PLAYERS = 4;
    private static final int MOST_RANKS = 13;
    private static final int MOST_HELD = 13;
    private static final int MOST_CARDS = 52;
    private static final int MOST_BYTES = 500;
    private static final int MOST_QUERY_BYTES = 200;
    private static final int MOST_UNDOS = 10;
    private static final int MOST_SEED = 99999;
    private static final int MOST_RULE = 3;
    private static final int MOST_GLOW = 30;
    private static final int MOST_FADE = 9;
    private static final int MOST_SEARCHED = 12;

    private static final int FIRST_GLOW = 10;
    private static final int FIRST_FADE = 2;

    private static final int RULE_ANY = 0;
    private static final int RULE_FOLLOW = 1;
    private static final int RULE_HIGHER = 2;
    private static final int RULE_TRUMP = 3;

    private static final int TOO_LATE = -2;
    private static final int NOT_THEIRS = -3;
    private static final int NOT_ALLOWED = -4;

    private static final int ERROR_TOKEN = 1;
    private static final int ERROR_RANGE = 2;
    private static final int ERROR_TWICE = 3;
    private static final int ERROR_DEPTH = 3;

    private final byte[] buffer = new byte[MOST_BYTES];
    private int buffered;
    private final Tokens tokens;
    private final Setup setup;
    private final Pack pack;
    private final Table table;
    private final History history;
    private final Table snapshot;
    private boolean hasSnapshot;
    private final TextReader textReader;
    private final QueryReader queryReader;
    private final SureSearch search;
    private final HandText handText;

    public FadingTrumps() {
        tokens = new Tokens(buffer);
        setup = new Setup();
        pack = new Pack();
        table = new Table(setup);
        history = new History(setup);
        snapshot = new Table(setup);
        textReader = new TextReader(tokens, pack);
        queryReader = new QueryReader(tokens);
        search = new SureSearch(table);
        handText = new HandText();
        pack.mix(0, setup.cardCount());
        table.handOutInTurn(pack);
        table.openHand();
    }

    // ---- the buffer and the text

    public int feed(int a, int b, int c, int d, int e) {
        if (buffered + 20 > MOST_BYTES) {
            return NONE;
        }
        append(a);
        append(b);
        append(c);
        append(d);
        append(e);
        return buffered;
    }

    private void append(int word) {
        for (int shift = 24; shift >= 0; shift -= 8) {
            if (buffered >= 0 && buffered < buffer.length) {
                buffer[buffered] = (byte) (word >> shift);
                buffered++;
            }
        }
    }

    public int load(int length) throws IllegalArgumentException {
        if (length < 0 || length > buffered) {
            throw new IllegalArgumentException();
        }
        int error = textReader.read(length);
        buffered = 0;
        if (error != 0) {
            return -10 - error;
        }
        setup.copyFrom(textReader.setup);
        table.copyFrom(textReader.table);
        history.clear();
        hasSnapshot = false;
        return setup.cardsOfHands();
    }

    public int errorPosition() {
        return tokens.errorAt;
    }

    public int query(int length) throws IllegalArgumentException {
        if (length < 0 || length > MOST_QUERY_BYTES || length > buffered) {
            throw new IllegalArgumentException();
        }
        int error = queryReader.read(length);
        buffered = 0;
        return error != 0 ? HIDDEN - error : queryReader.answer(table);
    }

    // ---- numbers of the game and of the cards

    public int size(int what) throws NoSuchElementException {
        switch (what) {
            case 0: return setup.ranks;
            case 1: return setup.players;
            case 2: return setup.held;
            case 3: return table.rule;
            case 4: return table.trick.trump;
            case 5: return table.trick.glow;
            case 6: return setup.fullGlow;
            case 7: return table.fade;
            case 8: return table.revive ? 1 : 0;
            case 9: return table.isOver() ? NONE : table.trick.turn;
            case 10: return table.trick.leader;
            case 11: return table.complete;
            case 12: return table.playedCount;
            case 13: return table.handsOver;
            default: throw new NoSuchElementException();
        }
    }

    public int suit(int card) throws NoSuchElementException {
        needCard(card);
        return setup.suitOf(card);
    }

    public int rank(int card) throws NoSuchElementException {
        needCard(card);
        return setup.rankOf(card);
    }

    public int holder(int card) throws NoSuchElementException {
        needCard(card);
        return table.holderOf(card);
    }

    public int held(int player) throws NoSuchElementException {
        needPlayer(player);
        return Long.bitCount(table.handOf(player));
    }

    public int inHand(int player, int index) throws NoSuchElementException {
        needPlayer(player);
        long hand = table.handOf(player);
        if (index < 0 || index >= Long.bitCount(hand)) {
            throw new NoSuchElementException();
        }
        int before = 0;
        for (int card = 0; card < MOST_CARDS; card++) {
            if (Rows.has(hand, card)) {
                if (before == index) {
                    return card;
                }
                before++;
            }
        }
        return NONE;
    }

    public int ofSuit(int player, int suit) throws NoSuchElementException {
        needPlayer(player);
        needSuit(suit);
        return Long.bitCount(table.handOf(player) & setup.cardsOf(suit));
    }

    // ---- the present trick

    public boolean isLegal(int card) throws NoSuchElementException {
        needCard(card);
        return Rows.has(table.allowedCards(), card);
    }

    public int legal() {
        return Long.bitCount(table.allowedCards());
    }

    public int power(int card) throws NoSuchElementException {
        needCard(card);
        return table.trick.powerOf(setup, card);
    }

    public int led() {
        return table.trick.led;
    }

    public int winning() {
        return table.trick.winner;
    }

    public boolean wouldLead(int card) throws NoSuchElementException {
        needCard(card);
        return table.trick.wouldBeBest(setup, card);
    }

    // ---- the hand and the points

    public int played(int index, int what) throws NoSuchElementException {
        if (index < 0 || index >= table.playedCount) {
            throw new NoSuchElementException();
        }
        switch (what) {
            case 0: return Rows.at(table.playedCards, index);
            case 1: return Rows.at(table.playedBy, index);
            case 2: return setup.trickOf(index);
            default: throw new NoSuchElementException();
        }
    }

    public int trick(int trick, int what) throws NoSuchElementException {
        if (trick < 0 || trick >= table.complete || what < 0 || what >= Table.RECORD) {
            throw new NoSuchElementException();
        }
        return Rows.at(table.records, trick * Table.RECORD + what);
    }

    public int tricks(int player) throws NoSuchElementException {
        needPlayer(player);
        return Rows.at(table.won, player);
    }

    public int told(int player) throws NoSuchElementException {
        needPlayer(player);
        return Rows.at(table.told, player);
    }

    public int result(int player) throws NoSuchElementException {
        needPlayer(player);
        return table.resultOf(player);
    }

    public int points(int player) throws NoSuchElementException {
        needPlayer(player);
        return Rows.at(table.points, player);
    }

    public int ranking(int place) throws NoSuchElementException {
        needPlayer(place);
        for (int player = 0; player < setup.players; player++) {
            if (table.playersAhead(player) == place) {
                return player;
            }
        }
        return NONE;
    }

    // ---- what is known

    public boolean lacks(int player, int suit) throws NoSuchElementException {
        needPlayer(player);
        needSuit(suit);
        return table.isKnownToLack(player, suit);
    }

    public boolean could(int player, int card) throws NoSuchElementException {
        needPlayer(player);
        needCard(card);
        return table.handOf(player) != 0 && !Rows.has(table.gone, card)
            && !table.isKnownToLack(player, setup.suitOf(card));
    }

    public int unseen(int player) throws NoSuchElementException {
        needPlayer(player);
        return setup.cardCount() - table.playedCount - Long.bitCount(table.handOf(player));
    }

    public boolean isMaster(int card) throws NoSuchElementException {
        needCard(card);
        return table.isBestOfHands(card);
    }

    public int masters(int player) throws NoSuchElementException {
        needPlayer(player);
        int count = 0;
        for (int card = 0; card < setup.cardCount(); card++) {
            if (table.holderOf(card) == player && table.isBestOfHands(card)) {
                count++;
            }
        }
        return count;
    }

    public int darkIn() {
        int glow = table.trick.glow;
        int fade = table.fade;
        if (glow == 0) {
            return 0;
        }
        return fade <= 0 ? NONE : (glow + fade - 1) / fade;
    }

    public int sure() {
        return search.isOpen() ? search.mostTricks() : NONE;
    }

    public int sureCard() {
        if (!search.isOpen()) {
            return NONE;
        }
        search.mostTricks();
        return search.chosen;
    }

    public double meanRank(int player) throws NoSuchElementException {
        needPlayer(player);
        long hand = table.handOf(player);
        int sum = 0;
        for (int card = 0; card < setup.cardCount(); card++) {
            if (Rows.has(hand, card)) {
                sum += setup.rankOf(card);
            }
        }
        return hand == 0 ? 0.0 : (double) sum / (double) Long.bitCount(hand);
    }

    public float share(int player) throws NoSuchElementException {
        needPlayer(player);
        return table.complete <= 0 ? 0.0f : (float) Rows.at(table.won, player) / (float) table.complete;
    }

    // ---- operations

    public int play(int card) throws NoSuchElementException {
        needCard(card);
        if (table.isOver()) {
            return TOO_LATE;
        }
        if (table.holderOf(card) != table.trick.turn) {
            return NOT_THEIRS;
        }
        if (!Rows.has(table.allowedCards(), card)) {
            return NOT_ALLOWED;
        }
        history.keep(table);
        table.putDown(card);
        return table.trick.placed == 0 ? table.trick.leader : setup.players + table.trick.turn;
    }

    public int auto(int cards) throws IllegalArgumentException {
        needRange(cards, 1, MOST_CARDS);
        if (table.isOver()) {
            return TOO_LATE;
        }
        history.keep(table);
        int count = 0;
        while (count < cards && !table.isOver()) {
            table.putDown(table.choice());
            count++;
        }
        return count;
    }

    public int tell(int player, int tricks) throws NoSuchElementException, IllegalArgumentException {
        needPlayer(player);
        needRange(tricks, 0, setup.held);
        if (table.playedCount > 0) {
            return TOO_LATE;
        }
        history.keep(table);
        int before = Rows.at(table.told, player);
        Rows.set(table.told, player, tricks);
        return before + 1;
    }

    public int deal(int seed) throws IllegalArgumentException {
        needRange(seed, 0, MOST_SEED);
        if (!table.isOver()) {
            return TOO_LATE;
        }
        history.keep(table);
        pack.mix(seed, setup.cardCount());
        table.clearHand();
        table.firstLead = setup.behind(table.firstLead);
        table.handOutInTurn(pack);
        table.openHand();
        return table.trick.leader;
    }

    public int setTrump(int suit) throws IllegalArgumentException {
        needRange(suit, NONE, SUITS - 1);
        if (table.playedCount > 0) {
            return TOO_LATE;
        }
        history.keep(table);
        int before = table.toldTrump;
        table.toldTrump = suit;
        table.lightTrump();
        return before + 1;
    }

    public int setRule(int rule) throws IllegalArgumentException {
        needRange(rule, 0, MOST_RULE);
        if (table.trick.placed > 0) {
            return TOO_LATE;
        }
        history.keep(table);
        int before = table.rule;
        table.rule = rule;
        return before;
    }

    public int setFade(int fade) throws IllegalArgumentException {
        needRange(fade, 0, MOST_FADE);
        history.keep(table);
        int before = table.fade;
        table.fade = fade;
        return before;
    }

    public int setRevive(boolean on) {
        history.keep(table);
        boolean before = table.revive;
        table.revive = on;
        return before ? 1 : 0;
    }

    // ---- the text of a hand

    public int format(int player) throws NoSuchElementException {
        needPlayer(player);
        return handText.write(setup, table.handOf(player));
    }

    public int formattedByte(int index) {
        return handText.byteAt(index);
    }

    // ---- undoing

    public int undoCount() {
        return history.count;
    }

    public int undo() {
        if (history.count <= 0) {
            return NONE;
        }
        history.takeBack(table);
        return history.count;
    }

    public void saveSnapshot() {
        snapshot.copyFrom(table);
        hasSnapshot = true;
    }

    public boolean restoreSnapshot() {
        if (!hasSnapshot) {
            return false;
        }
        table.copyFrom(snapshot);
        history.clear();
        return true;
    }

    // ---- wrong arguments

    private void needCard(int card) {
        if (card < 0 || card >= setup.cardCount()) {
            throw new NoSuchElementException();
        }
    }

    private void needPlayer(int player) {
        if (player < 0 || player >= setup.players) {
            throw new NoSuchElementException();
        }
    }

    private void needSuit(int suit) {
        if (suit < 0 || suit >= SUITS) {
            throw new NoSuchElementException();
        }
    }

    private void needRange(int number, int least, int most) {
        if (number < least || number > most) {
            throw new IllegalArgumentException();
        }
    }

    /**
     * Rows of numbers, and sets of cards (a long with a bit for each card). An index outside a row reads 0 and writes
     * nothing, so that no index can ever throw.
     */
    static final class Rows {
        static int at(int[] row, int index) {
            return index >= 0 && index < row.length ? row[index] : 0;
        }

        static void set(int[] row, int index, int value) {
            if (index >= 0 && index < row.length) {
                row[index] = value;
            }
        }

        static void fill(int[] row, int value) {
            for (int i = 0; i < row.length; i++) {
                row[i] = value;
            }
        }

        static void copy(int[] from, int[] to) {
            System.arraycopy(from, 0, to, 0, Math.min(from.length, to.length));
        }

        static void copySets(long[] from, long[] to) {
            System.arraycopy(from, 0, to, 0, Math.min(from.length, to.length));
        }

        static boolean has(long cards, int card) {
            return (cards >> card & 1L) != 0;
        }

        static long with(long cards, int card) {
            return cards | 1L << card;
        }

        static long without(long cards, int card) {
            return cards & ~(1L << card);
        }
    }

    /** The quantities that only a text changes; they stand outside what is undone. */
    static final class Setup {
        int ranks;
        int players;
        int held;
        int fullGlow;

        Setup() {
            ranks = 9;
            players = 2;
            held = 5;
            fullGlow = FIRST_GLOW;
        }

        void copyFrom(Setup other) {
            ranks = other.ranks;
            players = other.players;
            held = other.held;
            fullGlow = other.fullGlow;
        }

        int cardCount() {
            return SUITS * ranks;
        }

        int cardsOfHands() {
            return players * held;
        }

        int mostHeld() {
            return players <= 0 ? MOST_HELD : Math.min(MOST_HELD, cardCount() / players);
        }

        int suitOf(int card) {
            return ranks <= 0 ? 0 : card / ranks;
        }

        int rankOf(int card) {
            return ranks <= 0 ? 0 : card % ranks + 1;
        }

        int trickOf(int index) {
            return players <= 0 ? 0 : index / players;
        }

        /** All cards of a suit; none where there is no suit. */
        long cardsOf(int suit) {
            return suit == NONE ? 0L : (1L << ranks) - 1L << suit * ranks;
        }

        int behind(int player) {
            return player + 1 < players ? player + 1 : 0;
        }
    }

    /** All cards in a row, exchanged by a seed. */
    static final class Pack {
        private final int[] row = new int[MOST_CARDS];

        void mix(int seed, int count) {
            for (int card = 0; card < count; card++) {
                Rows.set(row, card, card);
            }
            int x = seed;
            for (int k = count - 1; k >= 1; k--) {
                x = (x * 1103 + 12345) % 100003;
                exchange(k, x % (k + 1));
            }
        }

        private void exchange(int one, int other) {
            int card = cardAt(one);
            Rows.set(row, one, cardAt(other));
            Rows.set(row, other, card);
        }

        int cardAt(int place) {
            return Rows.at(row, place);
        }
    }

    /** The present trick, with the trump and the glow under which it is played. */
    static final class Trick {
        int leader;
        int turn;
        int placed;
        int led;
        int best;
        int bestCard;
        int winner;
        int trump;
        int glow;

        Trick() {
            led = NONE;
            bestCard = NONE;
            winner = NONE;
            trump = NONE;
        }

        void copyFrom(Trick other) {
            leader = other.leader;
            turn = other.turn;
            placed = other.placed;
            led = other.led;
            best = other.best;
            bestCard = other.bestCard;
            winner = other.winner;
            trump = other.trump;
            glow = other.glow;
        }

        void begin(int player) {
            leader = player;
            turn = player;
            placed = 0;
            led = NONE;
            best = 0;
            bestCard = NONE;
            winner = NONE;
        }

        int powerOf(Setup setup, int card) {
            int suit = setup.suitOf(card);
            if (suit == trump) {
                return setup.rankOf(card) + glow;
            }
            return placed == 0 || suit == led ? setup.rankOf(card) : 0;
        }

        int powerIfItLed(Setup setup, int card) {
            return setup.rankOf(card) + (setup.suitOf(card) == trump ? glow : 0);
        }

        boolean wouldBeBest(Setup setup, int card) {
            return placed == 0 || powerOf(setup, card) > best;
        }

        void place(Setup setup, int card) {
            int power = powerOf(setup, card);
            if (placed == 0) {
                led = setup.suitOf(card);
            }
            if (placed == 0 || power > best) {
                best = power;
                bestCard = card;
                winner = turn;
            }
            placed++;
            turn = setup.behind(turn);
        }

        void finish(Setup setup, int fade, boolean revive) {
            dim(setup, fade, revive);
            begin(winner);
        }

        private void dim(Setup setup, int fade, boolean revive) {
            // a trump that was told with GLOW 0 never fades, so it stays
            if (glow == 0) {
                return;
            }
            glow = Math.max(0, glow - fade);
            if (glow > 0) {
                return;
            }
            trump = revive ? setup.suitOf(bestCard) : NONE;
            glow = revive ? setup.fullGlow : 0;
        }

        long allowed(Setup setup, long hand, int rule) {
            if (placed == 0 || rule == RULE_ANY) {
                return hand;
            }
            long following = hand & setup.cardsOf(led);
            if (following != 0) {
                long higher = rule == RULE_HIGHER ? higherOf(setup, following) : 0L;
                return higher != 0 ? higher : following;
            }
            long trumps = rule == RULE_TRUMP ? hand & setup.cardsOf(trump) : 0L;
            return trumps != 0 ? trumps : hand;
        }

        private long higherOf(Setup setup, long following) {
            int rank = best - (led == trump ? glow : 0);
            // a card of the rank r stands behind r - 1 others of its suit
            return rank >= setup.ranks ? 0L : following & -1L << led * setup.ranks + rank;
        }
    }

    /** All that an operation can change, so all that is undone. */
    static final class Table {
        static final int RECORD = 6;

        final Setup setup;
        final Trick trick = new Trick();
        final long[] hands = new long[MOST_PLAYERS];
        final int[] told = new int[MOST_PLAYERS];
        final int[] won = new int[MOST_PLAYERS];
        final int[] lacking = new int[MOST_PLAYERS];
        final int[] points = new int[MOST_PLAYERS];
        final int[] playedCards = new int[MOST_CARDS];
        final int[] playedBy = new int[MOST_CARDS];
        final int[] records = new int[MOST_HELD * RECORD];
        long gone;
        int rule;
        int fade;
        boolean revive;
        int toldTrump;
        int firstLead;
        int playedCount;
        int complete;
        int handsOver;

        Table(Setup setup) {
            this.setup = setup;
            clear();
        }

        void clear() {
            Rows.fill(points, 0);
            rule = RULE_FOLLOW;
            fade = FIRST_FADE;
            revive = false;
            toldTrump = NONE;
            firstLead = 0;
            handsOver = 0;
            clearHand();
        }

        void clearHand() {
            for (int player = 0; player < hands.length; player++) {
                hands[player] = 0L;
            }
            Rows.fill(told, NONE);
            Rows.fill(won, 0);
            Rows.fill(lacking, 0);
            gone = 0L;
            playedCount = 0;
            complete = 0;
        }

        void copyFrom(Table other) {
            trick.copyFrom(other.trick);
            Rows.copySets(other.hands, hands);
            Rows.copy(other.told, told);
            Rows.copy(other.won, won);
            Rows.copy(other.lacking, lacking);
            Rows.copy(other.points, points);
            Rows.copy(other.playedCards, playedCards);
            Rows.copy(other.playedBy, playedBy);
            Rows.copy(other.records, records);
            gone = other.gone;
            rule = other.rule;
            fade = other.fade;
            revive = other.revive;
            toldTrump = other.toldTrump;
            firstLead = other.firstLead;
            playedCount = other.playedCount;
            complete = other.complete;
            handsOver = other.handsOver;
        }

        void openHand() {
            trick.begin(firstLead);
            lightTrump();
        }

        void lightTrump() {
            trick.trump = toldTrump;
            trick.glow = toldTrump == NONE ? 0 : setup.fullGlow;
        }

        void handOutInTurn(Pack pack) {
            int player = 0;
            for (int place = 0; place < setup.cardsOfHands(); place++) {
                give(player, pack.cardAt(place));
                player = setup.behind(player);
            }
        }

        /** Gives the first ones of the cards that nobody has, to the players in turn all that they lack. */
        void fillUp(Pack pack) {
            for (int place = 0; place < setup.cardCount(); place++) {
                int card = pack.cardAt(place);
                int player = firstLackingCards();
                if (player != NONE && holderOf(card) == NONE) {
                    give(player, card);
                }
            }
        }

        private int firstLackingCards() {
            for (int player = 0; player < setup.players; player++) {
                if (!isFull(player)) {
                    return player;
                }
            }
            return NONE;
        }

        boolean isFull(int player) {
            return Long.bitCount(handOf(player)) >= setup.held;
        }

        void give(int player, int card) {
            setHand(player, Rows.with(handOf(player), card));
        }

        long handOf(int player) {
            return player >= 0 && player < hands.length ? hands[player] : 0L;
        }

        private void setHand(int player, long hand) {
            if (player >= 0 && player < hands.length) {
                hands[player] = hand;
            }
        }

        long allHands() {
            long all = 0L;
            for (int player = 0; player < hands.length; player++) {
                all |= hands[player];
            }
            return all;
        }

        int holderOf(int card) {
            for (int player = 0; player < setup.players; player++) {
                if (Rows.has(handOf(player), card)) {
                    return player;
                }
            }
            return NONE;
        }

        boolean isOver() {
            return playedCount >= setup.cardsOfHands();
        }

        long allowedCards() {
            return isOver() ? 0L : trick.allowed(setup, handOf(trick.turn), rule);
        }

        /** Plays a card of the player whose turn it is; the caller has looked whether they may. */
        void putDown(int card) {
            int player = trick.turn;
            noteLack(player, setup.suitOf(card));
            setHand(player, Rows.without(handOf(player), card));
            gone = Rows.with(gone, card);
            Rows.set(playedCards, playedCount, card);
            Rows.set(playedBy, playedCount, player);
            playedCount++;
            trick.place(setup, card);
            if (trick.placed >= setup.players) {
                closeTrick();
            }
        }

        private void noteLack(int player, int suit) {
            if (rule != RULE_ANY && trick.placed > 0 && suit != trick.led) {
                Rows.set(lacking, player, Rows.at(lacking, player) | 1 << trick.led);
            }
        }

        private void closeTrick() {
            int first = complete * RECORD;
            Rows.set(records, first, trick.leader);
            Rows.set(records, first + 1, trick.winner);
            Rows.set(records, first + 2, trick.bestCard);
            Rows.set(records, first + 3, trick.led);
            Rows.set(records, first + 4, trick.trump);
            Rows.set(records, first + 5, trick.glow);
            complete++;
            Rows.set(won, trick.winner, Rows.at(won, trick.winner) + 1);
            trick.finish(setup, fade, revive);
            if (isOver()) {
                closeHand();
            }
        }

        private void closeHand() {
            handsOver++;
            for (int player = 0; player < setup.players; player++) {
                Rows.set(points, player, Rows.at(points, player) + resultOf(player));
            }
        }

        int resultOf(int player) {
            int tricks = Rows.at(won, player);
            int said = Rows.at(told, player);
            if (said == NONE) {
                return tricks;
            }
            return said == tricks ? 10 + said : -Math.abs(said - tricks);
        }

        int playersAhead(int player) {
            int own = Rows.at(points, player);
            int ahead = 0;
            for (int other = 0; other < setup.players; other++) {
                int others = Rows.at(points, other);
                if (others > own || others == own && other < player) {
                    ahead++;
                }
            }
            return ahead;
        }

        boolean isKnownToLack(int player, int suit) {
            return (Rows.at(lacking, player) >> suit & 1) != 0;
        }

        boolean isBestOfHands(int card) {
            int owner = holderOf(card);
            if (owner == NONE) {
                return false;
            }
            int power = trick.powerIfItLed(setup, card);
            // every other suit would have the power 0 in this trick
            long suits = setup.cardsOf(setup.suitOf(card)) | setup.cardsOf(trick.trump);
            long rivals = allHands() & ~handOf(owner) & suits;
            for (int rival = 0; rival < setup.cardCount(); rival++) {
                if (Rows.has(rivals, rival) && trick.powerIfItLed(setup, rival) >= power) {
                    return false;
                }
            }
            return true;
        }

        /** The card that auto plays. */
        int choice() {
            return trick.placed == 0 ? strongest() : cheapest();
        }

        private int strongest() {
            long hand = allowedCards();
            int chosen = NONE;
            int most = 0;
            for (int card = 0; card < setup.cardCount(); card++) {
                int power = trick.powerOf(setup, card);
                if (Rows.has(hand, card) && power > most) {
                    chosen = card;
                    most = power;
                }
            }
            return chosen;
        }

        private int cheapest() {
            long hand = allowedCards();
            int taking = NONE;
            int yielding = NONE;
            for (int card = 0; card < setup.cardCount(); card++) {
                if (!Rows.has(hand, card)) {
                    continue;
                }
                if (trick.wouldBeBest(setup, card) && hasLessPower(card, taking)) {
                    taking = card;
                }
                if (yielding == NONE || setup.rankOf(card) < setup.rankOf(yielding)) {
                    yielding = card;
                }
            }
            return taking != NONE ? taking : yielding;
        }

        private boolean hasLessPower(int card, int other) {
            return other == NONE || trick.powerOf(setup, card) < trick.powerOf(setup, other);
        }
    }

    /** The tables as they were ahead of the most recent operations, in a ring of rows made once. */
    static final class History {
        private final Table[] before = new Table[MOST_UNDOS];
        private int next;
        int count;

        History(Setup setup) {
            for (int i = 0; i < before.length; i++) {
                before[i] = new Table(setup);
            }
        }

        void clear() {
            next = 0;
            count = 0;
        }

        void keep(Table table) {
            Table row = rowAt(next);
            if (row != null) {
                row.copyFrom(table);
            }
            next = next + 1 < MOST_UNDOS ? next + 1 : 0;
            count = Math.min(count + 1, MOST_UNDOS);
        }

        void takeBack(Table table) {
            next = next > 0 ? next - 1 : MOST_UNDOS - 1;
            count = Math.max(count - 1, 0);
            Table row = rowAt(next);
            if (row != null) {
                table.copyFrom(row);
            }
        }

        private Table rowAt(int index) {
            return index >= 0 && index < before.length ? before[index] : null;
        }
    }

    /** Reads the tokens of a text one behind the other, and keeps the first error of it. */
    static final class Tokens {
        private static final int END = 0;
        private static final int BLANK = 1;
        private static final int WORD = 2;
        private static final int NUMBER = 3;
        private static final int SIGN = 4;

        // above every range of the document, and far from the edge of int
        private static final int TOO_LARGE = 1000000;

        private final byte[] bytes;
        private int length;
        private int start;
        private int stop;
        private int kind;
        private int number;
        int errorCode;
        int errorAt;

        Tokens(byte[] bytes) {
            this.bytes = bytes;
            errorAt = NONE;
        }

        void open(int count) {
            length = count;
            stop = 0;
            errorCode = 0;
            errorAt = NONE;
            next();
        }

        void next() {
            start = stop;
            while (start < length && kindAt(start) == BLANK) {
                start++;
            }
            kind = kindAt(start);
            number = 0;
            stop = start;
            while (stop < length && kindAt(stop) == kind) {
                if (kind == NUMBER) {
                    number = Math.min(number * 10 + byteAt(stop) - '0', TOO_LARGE);
                }
                stop++;
                if (kind == SIGN) {
                    break;
                }
            }
        }

        /** The kind of token to which a byte belongs; those that are invalid are signs that no reader takes. */
        private int kindAt(int index) {
            if (index < 0 || index >= length || index >= bytes.length) {
                return END;
            }
            int sign = bytes[index];
            if (sign == 32 || sign == 10) {
                return BLANK;
            }
            if (sign >= 'a' && sign <= 'z') {
                return WORD;
            }
            return sign >= '0' && sign <= '9' ? NUMBER : SIGN;
        }

        private int byteAt(int index) {
            return index >= 0 && index < bytes.length ? bytes[index] & 255 : 0;
        }

        boolean hasFailed() {
            return errorCode != 0;
        }

        void fail(int code) {
            if (errorCode == 0) {
                errorCode = code;
                errorAt = start;
            }
        }

        boolean isAtEnd() {
            return kind == END;
        }

        boolean isNumber() {
            return kind == NUMBER;
        }

        boolean isSign(int sign) {
            return kind == SIGN && byteAt(start) == sign;
        }

        boolean isWord(String word) {
            if (kind != WORD || stop - start != word.length()) {
                return false;
            }
            for (int i = 0; i < word.length(); i++) {
                if (byteAt(start + i) != word.charAt(i)) {
                    return false;
                }
            }
            return true;
        }

        /** Behind an error nothing is taken any more, so that every reader comes to its end. */
        boolean takeWord(String word) {
            if (hasFailed() || !isWord(word)) {
                return false;
            }
            next();
            return true;
        }

        boolean takeSign(int sign) {
            if (hasFailed() || !isSign(sign)) {
                return false;
            }
            next();
            return true;
        }

        void needWord(String word) {
            if (!takeWord(word)) {
                fail(ERROR_TOKEN);
            }
        }

        void needSign(int sign) {
            if (!takeSign(sign)) {
                fail(ERROR_TOKEN);
            }
        }

        /** The number that stands here, which stays the present token; the least one if there is an error. */
        int peekNumber(int least, int most) {
            if (kind != NUMBER) {
                fail(ERROR_TOKEN);
            } else if (number < least || number > most) {
                fail(ERROR_RANGE);
            }
            return hasFailed() ? least : number;
        }

        int takeNumber(int least, int most) {
            int value = peekNumber(least, most);
            if (!hasFailed()) {
                next();
            }
            return value;
        }
    }

    /** Reads a text into a table of its own, so that an error leaves the game as it is. */
    static final class TextReader {
        final Setup setup = new Setup();
        final Table table = new Table(setup);
        private final Tokens tokens;
        private final Pack pack;
        private int seed;

        TextReader(Tokens tokens, Pack pack) {
            this.tokens = tokens;
            this.pack = pack;
        }

        /** Answers the error code, 0 without an error. */
        int read(int length) {
            tokens.open(length);
            table.clear();
            readSizes();
            readTrump();
            readStart();
            for (int i = 0; i < length && !tokens.hasFailed() && !tokens.isAtEnd(); i++) {
                readClause(length);
            }
            if (!tokens.hasFailed()) {
                handOut();
            }
            return tokens.errorCode;
        }

        private void readSizes() {
            tokens.needWord("blue");
            setup.ranks = tokens.takeNumber(4, MOST_RANKS);
            setup.players = tokens.takeNumber(2, MOST_PLAYERS);
            setup.held = tokens.takeNumber(1, setup.mostHeld());
            if (tokens.takeWord("rule")) {
                table.rule = tokens.takeNumber(0, MOST_RULE);
            }
        }

        private void readTrump() {
            setup.fullGlow = FIRST_GLOW;
            if (!tokens.takeWord("trump")) {
                return;
            }
            table.toldTrump = tokens.takeNumber(0, SUITS - 1);
            if (tokens.takeWord("glow")) {
                setup.fullGlow = tokens.takeNumber(0, MOST_GLOW);
            }
            if (tokens.takeWord("fade")) {
                table.fade = tokens.takeNumber(0, MOST_FADE);
            }
            table.revive = tokens.takeWord("revive");
        }

        private void readStart() {
            seed = 0;
            if (tokens.takeWord("lead")) {
                table.firstLead = tokens.takeNumber(0, setup.players - 1);
            }
            if (tokens.takeWord("seed")) {
                seed = tokens.takeNumber(0, MOST_SEED);
            }
            tokens.needSign(';');
        }

        private void readClause(int length) {
            if (tokens.takeWord("hand")) {
                readHand(length);
            } else if (tokens.takeWord("tell")) {
                readTell();
            } else {
                tokens.fail(ERROR_TOKEN);
            }
            tokens.needSign(';');
        }

        private void readHand(int length) {
            int player = tokens.takeNumber(0, setup.players - 1);
            readCard(player);
            for (int i = 0; i < length && !tokens.hasFailed() && tokens.isNumber(); i++) {
                readCard(player);
            }
        }

        private void readCard(int player) {
            int card = tokens.peekNumber(0, setup.cardCount() - 1);
            if (table.holderOf(card) != NONE || table.isFull(player)) {
                tokens.fail(ERROR_TWICE);
            }
            if (!tokens.hasFailed()) {
                table.give(player, card);
                tokens.next();
            }
        }

        private void readTell() {
            int player = tokens.peekNumber(0, setup.players - 1);
            if (Rows.at(table.told, player) != NONE) {
                tokens.fail(ERROR_TWICE);
            }
            tokens.takeNumber(0, setup.players - 1);
            int tricks = tokens.takeNumber(0, setup.held);
            if (!tokens.hasFailed()) {
                Rows.set(table.told, player, tricks);
            }
        }

        private void handOut() {
            pack.mix(seed, setup.cardCount());
            if (table.allHands() == 0) {
                table.handOutInTurn(pack);
            } else {
                table.fillUp(pack);
            }
            table.openHand();
        }
    }

    /**
     * Reads a query into steps that stand in the order in which they are answered: a comparison writes an answer,
     * 'not' turns the latest one round, 'and' and 'or' make one of the latest two.
     */
    static final class QueryReader {
        private static final int MOST_OPEN = 6;
        private static final int NOT = 1;
        private static final int AND = 2;
        private static final int OR = 3;

        // below 0, so that no number of a query is taken for a property
        private static final int CARD = -1;
        private static final int SUIT = -2;
        private static final int RANK = -3;
        private static final int HOLDER = -4;
        private static final int PLAYED = -5;
        private static final int POWER = -6;
        private static final int LEGAL = -7;
        private static final int TRUMP = -8;

        private final Tokens tokens;
        private final int[] steps = new int[MOST_QUERY_BYTES];
        private final int[] lefts = new int[MOST_QUERY_BYTES];
        private final int[] rights = new int[MOST_QUERY_BYTES];
        private int count;
        private boolean many;

        QueryReader(Tokens tokens) {
            this.tokens = tokens;
        }

        /** Answers the error code, 0 without an error. */
        int read(int length) {
            count = 0;
            tokens.open(length);
            many = tokens.takeWord("many");
            if (!many) {
                tokens.needWord("first");
            }
            readTest(0);
            if (!tokens.isAtEnd()) {
                tokens.fail(ERROR_TOKEN);
            }
            return tokens.errorCode;
        }

        private void readTest(int open) {
            readFactor(open);
            boolean waits = false;
            for (int i = 0; i < MOST_QUERY_BYTES && !tokens.hasFailed(); i++) {
                if (tokens.takeWord("and")) {
                    readFactor(open);
                    add(AND, 0, 0);
                } else if (tokens.takeWord("or")) {
                    // 'and' binds closer, so an 'or' is answered only when the conjunction behind it is
                    addOr(waits);
                    waits = true;
                    readFactor(open);
                } else {
                    break;
                }
            }
            addOr(waits);
        }

        private void addOr(boolean waits) {
            if (waits) {
                add(OR, 0, 0);
            }
        }

        private void readFactor(int open) {
            if (open >= MOST_OPEN && (tokens.isWord("not") || tokens.isSign('('))) {
                tokens.fail(ERROR_DEPTH);
            } else if (tokens.takeWord("not")) {
                readFactor(open + 1);
                add(NOT, 0, 0);
            } else if (tokens.takeSign('(')) {
                readTest(open + 1);
                tokens.needSign(')');
            } else {
                int left = readValue();
                int sign = readComparisonSign();
                add(sign, left, readValue());
            }
        }

        private int readComparisonSign() {
            if (tokens.takeSign('<')) {
                return '<';
            }
            if (tokens.takeSign('>')) {
                return '>';
            }
            if (!tokens.takeSign('=')) {
                tokens.fail(ERROR_TOKEN);
            }
            return '=';
        }

        private int readValue() {
            if (tokens.isNumber()) {
                return tokens.takeNumber(0, 9999);
            }
            int property = propertyHere();
            if (property == 0) {
                tokens.fail(ERROR_TOKEN);
            } else if (!tokens.hasFailed()) {
                tokens.next();
            }
            return property;
        }

        private int propertyHere() {
            if (tokens.isWord("card")) {
                return CARD;
            }
            if (tokens.isWord("suit")) {
                return SUIT;
            }
            if (tokens.isWord("rank")) {
                return RANK;
            }
            if (tokens.isWord("holder")) {
                return HOLDER;
            }
            if (tokens.isWord("played")) {
                return PLAYED;
            }
            if (tokens.isWord("power")) {
                return POWER;
            }
            if (tokens.isWord("legal")) {
                return LEGAL;
            }
            return tokens.isWord("trump") ? TRUMP : 0;
        }

        private void add(int step, int left, int right) {
            Rows.set(steps, count, step);
            Rows.set(lefts, count, left);
            Rows.set(rights, count, right);
            count++;
        }

        int answer(Table table) {
            long allowed = table.allowedCards();
            int found = 0;
            for (int card = 0; card < table.setup.cardCount(); card++) {
                if (holds(table, card, allowed)) {
                    if (!many) {
                        return card;
                    }
                    found++;
                }
            }
            return many ? found : NONE;
        }

        private boolean holds(Table table, int card, long allowed) {
            // a bit for each answer that waits, the latest one lowest: with six brackets open they are 15 at most
            int answers = 0;
            for (int i = 0; i < count; i++) {
                int step = Rows.at(steps, i);
                int rest = answers >> 1;
                if (step == NOT) {
                    answers ^= 1;
                } else if (step == AND) {
                    answers = rest & (answers | ~1);
                } else if (step == OR) {
                    answers = rest | answers & 1;
                } else {
                    int left = valueOf(table, card, allowed, Rows.at(lefts, i));
                    int right = valueOf(table, card, allowed, Rows.at(rights, i));
                    answers = answers << 1 | (compares(step, left, right) ? 1 : 0);
                }
            }
            return (answers & 1) != 0;
        }

        private static boolean compares(int sign, int left, int right) {
            if (sign == '<') {
                return left < right;
            }
            return sign == '>' ? left > right : left == right;
        }

        private static int valueOf(Table table, int card, long allowed, int value) {
            switch (value) {
                case CARD: return card;
                case SUIT: return table.setup.suitOf(card);
                case RANK: return table.setup.rankOf(card);
                case HOLDER: return table.holderOf(card) == NONE ? 9 : table.holderOf(card);
                case PLAYED: return Rows.has(table.gone, card) ? 1 : 0;
                case POWER: return table.trick.powerOf(table.setup, card);
                case LEGAL: return Rows.has(allowed, card) ? 1 : 0;
                case TRUMP: return table.setup.suitOf(card) == table.trick.trump ? 1 : 0;
                default: return value;
            }
        }
    }

    /** Plays all that is left in every way that the rule lets: one player for the most tricks, all others against. */
    static final class SureSearch {
        private static final int PLACES = 16384;
        private static final int DEPTHS = 13;

        private final Table table;
        private final Setup setup;
        private final Trick[] tricks = new Trick[DEPTHS];
        private final int[] cards = new int[MOST_SEARCHED];
        // For each set of cards and each leader, the search that wrote it and four bits for each trump and for none:
        // the tricks that can be had, plus 1. The glow needs no place: it depends on the cards that are left alone.
        private final long[] known = new long[PLACES];
        private long search;
        private int count;
        private int searcher;
        int chosen;

        SureSearch(Table table) {
            this.table = table;
            setup = table.setup;
            for (int depth = 0; depth < tricks.length; depth++) {
                tricks[depth] = new Trick();
            }
        }

        boolean isOpen() {
            return !table.isOver() && Long.bitCount(table.allHands()) <= MOST_SEARCHED;
        }

        /** Leaves in chosen the smallest card with which these tricks can be had. */
        int mostTricks() {
            Trick first = trickAt(0);
            if (first == null) {
                return NONE;
            }
            first.copyFrom(table.trick);
            searcher = first.turn;
            chosen = NONE;
            search++;
            long left = table.allHands();
            listCards(left);
            return tricksFrom(0, left);
        }

        private void listCards(long left) {
            count = 0;
            for (int card = 0; card < setup.cardCount(); card++) {
                if (Rows.has(left, card)) {
                    Rows.set(cards, count, card);
                    count++;
                }
            }
        }

        private Trick trickAt(int depth) {
            return depth >= 0 && depth < tricks.length ? tricks[depth] : null;
        }

        private int tricksFrom(int depth, long left) {
            Trick trick = trickAt(depth);
            if (trick == null || left == 0) {
                return 0;
            }
            if (trick.placed > 0) {
                return bestFrom(depth, trick, left);
            }
            int place = placeOf(left, trick.leader);
            int shift = 4 * (trick.trump + 1);
            int before = recall(place, shift);
            if (before > 0) {
                return before - 1;
            }
            int most = bestFrom(depth, trick, left);
            remember(place, shift, most + 1);
            return most;
        }

        private int bestFrom(int depth, Trick trick, long left) {
            boolean own = trick.turn == searcher;
            long hand = table.handOf(trick.turn) & left;
            long allowed = trick.allowed(setup, hand, table.rule);
            // nothing better than this can come, so the search ends there
            int goal = own ? Long.bitCount(hand) : 0;
            int found = NONE;
            for (int i = 0; i < count && found != goal; i++) {
                int card = Rows.at(cards, i);
                if (Rows.has(allowed, card)) {
                    int tricks = tricksWith(depth, trick, left, card);
                    if (found == NONE || (own ? tricks > found : tricks < found)) {
                        found = tricks;
                        chosen = depth == 0 ? card : chosen;
                    }
                }
            }
            return found;
        }

        private int tricksWith(int depth, Trick trick, long left, int card) {
            Trick next = trickAt(depth + 1);
            if (next == null) {
                return 0;
            }
            next.copyFrom(trick);
            next.place(setup, card);
            int had = 0;
            if (next.placed >= setup.players) {
                had = next.winner == searcher ? 1 : 0;
                next.finish(setup, table.fade, table.revive);
            }
            return had + tricksFrom(depth + 1, Rows.without(left, card));
        }

        private int placeOf(long left, int leader) {
            int place = 0;
            for (int i = 0; i < count; i++) {
                if (Rows.has(left, Rows.at(cards, i))) {
                    place |= 1 << i;
                }
            }
            return place * MOST_PLAYERS + leader;
        }

        private int recall(int place, int shift) {
            if (place < 0 || place >= known.length || known[place] >> 20 != search) {
                return 0;
            }
            return (int) (known[place] >> shift & 15L);
        }

        private void remember(int place, int shift, int value) {
            if (place < 0 || place >= known.length) {
                return;
            }
            if (known[place] >> 20 != search) {
                known[place] = search << 20;
            }
            known[place] |= (long) value << shift;
        }
    }

    /** The text of the most recent call of format. */
    static final class HandText {
        // 13 cards of at most three signs, with 12 blanks between them
        private final byte[] bytes = new byte[51];
        private int count;

        int write(Setup setup, long hand) {
            count = 0;
            for (int card = 0; card < setup.cardCount(); card++) {
                if (Rows.has(hand, card)) {
                    if (count > 0) {
                        append(' ');
                    }
                    append(letterOf(setup.suitOf(card)));
                    appendNumber(setup.rankOf(card));
                }
            }
            if (count == 0) {
                append('-');
            }
            return count;
        }

        private static int letterOf(int suit) {
            switch (suit) {
                case 0: return 's';
                case 1: return 'e';
                case 2: return 'i';
                default: return 'a';
            }
        }

        private void appendNumber(int number) {
            if (number >= 10) {
                append('0' + number / 10);
            }
            append('0' + number % 10);
        }

        private void append(int sign) {
            if (count >= 0 && count < bytes.length) {
                bytes[count] = (byte) sign;
                count++;
            }
        }

        int byteAt(int index) {
            return index >= 0 && index < count && index < bytes.length ? bytes[index] : NONE;
        }
    }
}
