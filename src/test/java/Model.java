import java.util.ArrayDeque;
import java.util.ArrayList;
import java.util.Collections;
import java.util.List;
import java.util.NoSuchElementException;
import java.util.TreeSet;

/**
 * The document once more, written for reading and not for the rules of LANGUAGE.md: lists, texts and copies. The
 * random runs compare the class with it.
 */
final class Model {
    static final int NONE = -1;
    static final int HIDDEN = -1000000000;

    static final class Failure extends RuntimeException {
        private static final long serialVersionUID = 1L;
        final int code;
        final int at;

        Failure(int code, int at) {
            super(null, null, false, false);
            this.code = code;
            this.at = at;
        }
    }

    record Token(String text, char kind, int at) {
    }

    record Played(int card, int player, int trick) {
    }

    record Taken(int leader, int winner, int card, int led, int trump, int glow) {
    }

    static final class State {
        int ranks = 9;
        int players = 2;
        int held = 5;
        int glowTold = 10;
        int rule = 1;
        int fade = 2;
        boolean revive;
        int trumpTold = NONE;
        int trump = NONE;
        int glow;
        int firstLead;
        int leader;
        int handsOver;
        List<TreeSet<Integer>> hands = new ArrayList<>();
        List<Played> played = new ArrayList<>();
        List<Taken> taken = new ArrayList<>();
        int[] told;
        int[] points;
        boolean[][] lacks;

        State copy() {
            State s = new State();
            s.ranks = ranks;
            s.players = players;
            s.held = held;
            s.glowTold = glowTold;
            s.rule = rule;
            s.fade = fade;
            s.revive = revive;
            s.trumpTold = trumpTold;
            s.trump = trump;
            s.glow = glow;
            s.firstLead = firstLead;
            s.leader = leader;
            s.handsOver = handsOver;
            for (TreeSet<Integer> hand : hands) {
                s.hands.add(new TreeSet<>(hand));
            }
            s.played.addAll(played);
            s.taken.addAll(taken);
            s.told = told.clone();
            s.points = points.clone();
            s.lacks = new boolean[players][];
            for (int p = 0; p < players; p++) {
                s.lacks[p] = lacks[p].clone();
            }
            return s;
        }

        int suit(int card) {
            return card / ranks;
        }

        int rank(int card) {
            return card % ranks + 1;
        }

        int total() {
            return 4 * ranks;
        }

        boolean over() {
            return played.size() == players * held;
        }

        List<Played> present() {
            return played.subList(taken.size() * players, played.size());
        }

        int led() {
            return present().isEmpty() ? NONE : suit(present().get(0).card);
        }

        int turn() {
            return over() ? NONE : (leader + present().size()) % players;
        }

        int powerWith(int card, int ledSuit) {
            if (suit(card) == trump) {
                return rank(card) + glow;
            }
            return suit(card) == ledSuit ? rank(card) : 0;
        }

        int power(int card) {
            return powerWith(card, present().isEmpty() ? suit(card) : led());
        }

        Played bestPlayed() {
            Played best = null;
            for (Played p : present()) {
                if (best == null || power(p.card) > power(best.card)) {
                    best = p;
                }
            }
            return best;
        }

        boolean wouldLead(int card) {
            return present().isEmpty() || power(card) > power(bestPlayed().card);
        }

        List<Integer> legal() {
            if (over()) {
                return new ArrayList<>();
            }
            List<Integer> hand = new ArrayList<>(hands.get(turn()));
            if (present().isEmpty() || rule == 0) {
                return hand;
            }
            List<Integer> same = new ArrayList<>();
            List<Integer> higher = new ArrayList<>();
            List<Integer> trumps = new ArrayList<>();
            for (int c : hand) {
                if (suit(c) == led()) {
                    same.add(c);
                    if (power(c) > power(bestPlayed().card)) {
                        higher.add(c);
                    }
                }
                if (suit(c) == trump) {
                    trumps.add(c);
                }
            }
            if (!same.isEmpty()) {
                return rule == 2 && !higher.isEmpty() ? higher : same;
            }
            return rule == 3 && !trumps.isEmpty() ? trumps : hand;
        }

        void beginHand() {
            played.clear();
            taken.clear();
            lacks = new boolean[players][4];
            leader = firstLead;
            setTrump(trumpTold);
        }

        void setTrump(int suit) {
            trumpTold = suit;
            trump = suit;
            glow = suit == NONE ? 0 : glowTold;
        }

        int tricks(int player) {
            int n = 0;
            for (Taken t : taken) {
                if (t.winner == player) {
                    n++;
                }
            }
            return n;
        }

        int result(int player) {
            int n = tricks(player);
            if (told[player] == NONE) {
                return n;
            }
            return told[player] == n ? 10 + n : -Math.abs(told[player] - n);
        }

        void put(int card) {
            int player = turn();
            if (rule != 0 && !present().isEmpty() && suit(card) != led()) {
                lacks[player][led()] = true;
            }
            hands.get(player).remove(card);
            played.add(new Played(card, player, taken.size()));
            if (present().size() < players) {
                return;
            }
            Played best = bestPlayed();
            taken.add(new Taken(leader, best.player, best.card, led(), trump, glow));
            leader = best.player;
            if (glow > 0) {
                glow = Math.max(0, glow - fade);
                if (glow == 0) {
                    trump = NONE;
                    if (revive) {
                        trump = suit(best.card);
                        glow = glowTold;
                    }
                }
            }
            if (over()) {
                handsOver++;
                for (int p = 0; p < players; p++) {
                    points[p] += result(p);
                }
            }
        }

        int auto() {
            List<Integer> may = legal();
            int best = NONE;
            if (present().isEmpty()) {
                for (int c : may) {
                    if (best == NONE || power(c) > power(best)) {
                        best = c;
                    }
                }
                return best;
            }
            for (int c : may) {
                if (wouldLead(c) && (best == NONE || power(c) < power(best))) {
                    best = c;
                }
            }
            if (best != NONE) {
                return best;
            }
            for (int c : may) {
                if (best == NONE || rank(c) < rank(best)) {
                    best = c;
                }
            }
            return best;
        }

        int cardsInHands() {
            int n = 0;
            for (TreeSet<Integer> h : hands) {
                n += h.size();
            }
            return n;
        }

        /** How many of the tricks that are not complete the player has in the end. */
        int outcome(int player) {
            if (over()) {
                return tricks(player);
            }
            boolean own = turn() == player;
            int best = own ? -1 : 1000;
            for (int c : legal()) {
                State s = copy();
                s.put(c);
                int n = s.outcome(player);
                best = own ? Math.max(best, n) : Math.min(best, n);
            }
            return best;
        }
    }

    final List<Byte> buffer = new ArrayList<>();
    State s = new State();
    final ArrayDeque<State> history = new ArrayDeque<>();
    State snapshot;
    int errorAt = NONE;
    String formatted;

    Model() {
        s = read(tokens("blue 9 2 5;"), 11);
    }

    // ---- texts

    static String text(List<Byte> bytes, int length) {
        StringBuilder b = new StringBuilder();
        for (int i = 0; i < length; i++) {
            b.append((char) (bytes.get(i) & 255));
        }
        return b.toString();
    }

    static List<Token> tokens(String text) {
        List<Token> list = new ArrayList<>();
        int i = 0;
        while (i < text.length()) {
            char c = text.charAt(i);
            int from = i;
            if (c == ' ' || c == '\n') {
                i++;
                continue;
            }
            if (c >= 'a' && c <= 'z') {
                while (i < text.length() && text.charAt(i) >= 'a' && text.charAt(i) <= 'z') {
                    i++;
                }
                list.add(new Token(text.substring(from, i), 'w', from));
            } else if (c >= '0' && c <= '9') {
                while (i < text.length() && text.charAt(i) >= '0' && text.charAt(i) <= '9') {
                    i++;
                }
                list.add(new Token(text.substring(from, i), 'n', from));
            } else {
                i++;
                list.add(new Token(String.valueOf(c), 's', from));
            }
        }
        return list;
    }

    private List<Token> list;
    private int at;
    private int end;

    private Token here() {
        return at < list.size() ? list.get(at) : new Token("", 'e', end);
    }

    private boolean isHere(String text) {
        return here().text.equals(text);
    }

    private boolean takes(String text) {
        if (isHere(text)) {
            at++;
            return true;
        }
        return false;
    }

    private void must(String text) {
        if (!takes(text)) {
            throw new Failure(1, here().at);
        }
    }

    private int number(int low, int high) {
        Token t = here();
        if (t.kind != 'n') {
            throw new Failure(1, t.at);
        }
        java.math.BigInteger n = new java.math.BigInteger(t.text);
        if (n.compareTo(java.math.BigInteger.valueOf(low)) < 0 || n.compareTo(java.math.BigInteger.valueOf(high)) > 0) {
            throw new Failure(2, t.at);
        }
        at++;
        return n.intValue();
    }

    State read(List<Token> tokens, int length) {
        list = tokens;
        at = 0;
        end = length;
        State n = new State();
        must("blue");
        n.ranks = number(4, 13);
        n.players = number(2, 4);
        int most = 0;
        while (most < 13 && n.players * (most + 1) <= 4 * n.ranks) {
            most++;
        }
        n.held = number(1, most);
        if (takes("rule")) {
            n.rule = number(0, 3);
        }
        if (takes("trump")) {
            n.trumpTold = number(0, 3);
            if (takes("glow")) {
                n.glowTold = number(0, 30);
            }
            if (takes("fade")) {
                n.fade = number(0, 9);
            }
            n.revive = takes("revive");
        }
        if (takes("lead")) {
            n.firstLead = number(0, n.players - 1);
        }
        int seed = takes("seed") ? number(0, 99999) : 0;
        must(";");
        for (int p = 0; p < n.players; p++) {
            n.hands.add(new TreeSet<>());
        }
        n.told = new int[n.players];
        java.util.Arrays.fill(n.told, NONE);
        n.points = new int[n.players];
        TreeSet<Integer> known = new TreeSet<>();
        while (here().kind != 'e') {
            clause(n, known);
            must(";");
        }
        List<Integer> row = shuffled(n.total(), seed);
        if (known.isEmpty()) {
            give(n, row);
        } else {
            row.removeAll(known);
            for (int p = 0; p < n.players; p++) {
                while (n.hands.get(p).size() < n.held) {
                    n.hands.get(p).add(row.remove(0));
                }
            }
        }
        n.beginHand();
        return n;
    }

    private void clause(State n, TreeSet<Integer> known) {
        if (takes("hand")) {
            int player = number(0, n.players - 1);
            do {
                int where = here().at;
                int card = number(0, n.total() - 1);
                if (known.contains(card) || n.hands.get(player).size() == n.held) {
                    throw new Failure(3, where);
                }
                known.add(card);
                n.hands.get(player).add(card);
            } while (here().kind == 'n');
        } else if (takes("tell")) {
            int where = here().at;
            int player = number(0, n.players - 1);
            if (n.told[player] != NONE) {
                throw new Failure(3, where);
            }
            n.told[player] = number(0, n.held);
        } else {
            throw new Failure(1, here().at);
        }
    }

    static List<Integer> shuffled(int count, int seed) {
        List<Integer> row = new ArrayList<>();
        for (int c = 0; c < count; c++) {
            row.add(c);
        }
        long x = seed;
        for (int k = count - 1; k >= 1; k--) {
            x = (x * 1103 + 12345) % 100003;
            Collections.swap(row, k, (int) (x % (k + 1)));
        }
        return row;
    }

    static void give(State n, List<Integer> row) {
        for (int i = 0; i < n.players * n.held; i++) {
            n.hands.get(i % n.players).add(row.get(i));
        }
    }

    // ---- queries

    interface Test {
        boolean holds(int card);
    }

    interface Value {
        int of(int card);
    }

    private Test test(int open) {
        Test left = conjunction(open);
        while (takes("or")) {
            Test a = left;
            Test b = conjunction(open);
            left = c -> a.holds(c) | b.holds(c);
        }
        return left;
    }

    private Test conjunction(int open) {
        Test left = factor(open);
        while (takes("and")) {
            Test a = left;
            Test b = factor(open);
            left = c -> a.holds(c) & b.holds(c);
        }
        return left;
    }

    private Test factor(int open) {
        if ((isHere("not") || isHere("(")) && open == 6) {
            throw new Failure(3, here().at);
        }
        if (takes("not")) {
            Test a = factor(open + 1);
            return c -> !a.holds(c);
        }
        if (takes("(")) {
            Test a = test(open + 1);
            must(")");
            return a;
        }
        Value a = value();
        String sign = here().text;
        if (!takes("<") && !takes("=")) {
            must(">");
        }
        Value b = value();
        switch (sign) {
            case "<": return c -> a.of(c) < b.of(c);
            case "=": return c -> a.of(c) == b.of(c);
            default: return c -> a.of(c) > b.of(c);
        }
    }

    private Value value() {
        if (here().kind == 'n') {
            int n = number(0, 9999);
            return c -> n;
        }
        Token t = here();
        at++;
        switch (t.text) {
            case "card": return c -> c;
            case "suit": return c -> s.suit(c);
            case "rank": return c -> s.rank(c);
            case "holder": return c -> holder(c) == NONE ? 9 : holder(c);
            case "played": return c -> wasPlayed(c) ? 1 : 0;
            case "power": return c -> s.power(c);
            case "legal": return c -> s.legal().contains(c) ? 1 : 0;
            case "trump": return c -> s.suit(c) == s.trump ? 1 : 0;
            default: throw new Failure(1, t.at);
        }
    }

    int query(int length) {
        if (length < 0 || length > 200 || length > buffer.size()) {
            throw new IllegalArgumentException();
        }
        list = tokens(text(buffer, length));
        at = 0;
        end = length;
        buffer.clear();
        errorAt = NONE;
        try {
            boolean many = takes("many");
            if (!many) {
                must("first");
            }
            Test t = test(0);
            if (here().kind != 'e') {
                throw new Failure(1, here().at);
            }
            int n = 0;
            for (int c = 0; c < s.total(); c++) {
                if (t.holds(c)) {
                    if (!many) {
                        return c;
                    }
                    n++;
                }
            }
            return many ? n : NONE;
        } catch (Failure f) {
            errorAt = f.at;
            return HIDDEN - f.code;
        }
    }

    int load(int length) {
        if (length < 0 || length > buffer.size()) {
            throw new IllegalArgumentException();
        }
        String text = text(buffer, length);
        buffer.clear();
        errorAt = NONE;
        try {
            s = read(tokens(text), length);
            history.clear();
            snapshot = null;
            return s.cardsInHands();
        } catch (Failure f) {
            errorAt = f.at;
            return -10 - f.code;
        }
    }

    int feed(int... words) {
        if (buffer.size() + 20 > 500) {
            return NONE;
        }
        for (int w : words) {
            buffer.add((byte) (w >>> 24));
            buffer.add((byte) (w >>> 16));
            buffer.add((byte) (w >>> 8));
            buffer.add((byte) w);
        }
        return buffer.size();
    }

    // ---- getters

    private void card(int card) {
        if (card < 0 || card >= s.total()) {
            throw new NoSuchElementException();
        }
    }

    private void player(int player) {
        if (player < 0 || player >= s.players) {
            throw new NoSuchElementException();
        }
    }

    private static void suitNumber(int suit) {
        if (suit < 0 || suit > 3) {
            throw new NoSuchElementException();
        }
    }

    boolean wasPlayed(int card) {
        for (Played p : s.played) {
            if (p.card == card) {
                return true;
            }
        }
        return false;
    }

    int size(int what) {
        int[] all = {s.ranks, s.players, s.held, s.rule, s.trump, s.glow, s.glowTold, s.fade, s.revive ? 1 : 0, s.turn(),
            s.leader, s.taken.size(), s.played.size(), s.handsOver};
        if (what < 0 || what >= all.length) {
            throw new NoSuchElementException();
        }
        return all[what];
    }

    int suit(int card) {
        card(card);
        return s.suit(card);
    }

    int rank(int card) {
        card(card);
        return s.rank(card);
    }

    int holder(int card) {
        card(card);
        for (int p = 0; p < s.players; p++) {
            if (s.hands.get(p).contains(card)) {
                return p;
            }
        }
        return NONE;
    }

    int held(int player) {
        player(player);
        return s.hands.get(player).size();
    }

    int inHand(int player, int index) {
        player(player);
        List<Integer> hand = new ArrayList<>(s.hands.get(player));
        if (index < 0 || index >= hand.size()) {
            throw new NoSuchElementException();
        }
        return hand.get(index);
    }

    int ofSuit(int player, int suit) {
        player(player);
        suitNumber(suit);
        int n = 0;
        for (int c : s.hands.get(player)) {
            if (s.suit(c) == suit) {
                n++;
            }
        }
        return n;
    }

    int isLegal(int card) {
        card(card);
        return s.legal().contains(card) ? 1 : 0;
    }

    int legal() {
        return s.legal().size();
    }

    int power(int card) {
        card(card);
        return s.power(card);
    }

    int led() {
        return s.led();
    }

    int winning() {
        return s.present().isEmpty() ? NONE : s.bestPlayed().player;
    }

    int wouldLead(int card) {
        card(card);
        return s.wouldLead(card) ? 1 : 0;
    }

    int played(int index, int what) {
        if (index < 0 || index >= s.played.size() || what < 0 || what > 2) {
            throw new NoSuchElementException();
        }
        Played p = s.played.get(index);
        return what == 0 ? p.card : what == 1 ? p.player : p.trick;
    }

    int trick(int trick, int what) {
        if (trick < 0 || trick >= s.taken.size() || what < 0 || what > 5) {
            throw new NoSuchElementException();
        }
        Taken t = s.taken.get(trick);
        return new int[] {t.leader, t.winner, t.card, t.led, t.trump, t.glow}[what];
    }

    int tricks(int player) {
        player(player);
        return s.tricks(player);
    }

    int told(int player) {
        player(player);
        return s.told[player];
    }

    int result(int player) {
        player(player);
        return s.result(player);
    }

    int points(int player) {
        player(player);
        return s.points[player];
    }

    int ranking(int place) {
        player(place);
        List<Integer> all = new ArrayList<>();
        for (int p = 0; p < s.players; p++) {
            all.add(p);
        }
        all.sort((a, b) -> s.points[a] != s.points[b] ? s.points[b] - s.points[a] : a - b);
        return all.get(place);
    }

    int lacks(int player, int suit) {
        player(player);
        suitNumber(suit);
        return s.lacks[player][suit] ? 1 : 0;
    }

    int could(int player, int card) {
        player(player);
        card(card);
        return !s.hands.get(player).isEmpty() && !wasPlayed(card) && !s.lacks[player][s.suit(card)] ? 1 : 0;
    }

    int unseen(int player) {
        player(player);
        int n = 0;
        for (int c = 0; c < s.total(); c++) {
            if (!wasPlayed(c) && !s.hands.get(player).contains(c)) {
                n++;
            }
        }
        return n;
    }

    int isMaster(int card) {
        card(card);
        int owner = holder(card);
        if (owner == NONE) {
            return 0;
        }
        for (int p = 0; p < s.players; p++) {
            for (int c : s.hands.get(p)) {
                if (p != owner && s.powerWith(c, s.suit(card)) >= s.powerWith(card, s.suit(card))) {
                    return 0;
                }
            }
        }
        return 1;
    }

    int masters(int player) {
        player(player);
        int n = 0;
        for (int c : s.hands.get(player)) {
            n += isMaster(c);
        }
        return n;
    }

    int darkIn() {
        if (s.glow == 0) {
            return 0;
        }
        if (s.fade == 0) {
            return NONE;
        }
        int n = 0;
        for (int g = s.glow; g > 0; g -= s.fade) {
            n++;
        }
        return n;
    }

    private boolean tooManyForSure() {
        return s.over() || s.cardsInHands() > 12;
    }

    int sure() {
        return tooManyForSure() ? NONE : s.outcome(s.turn()) - s.tricks(s.turn());
    }

    int sureCard() {
        if (tooManyForSure()) {
            return NONE;
        }
        int best = s.outcome(s.turn());
        for (int c : s.legal()) {
            State n = s.copy();
            n.put(c);
            if (n.outcome(s.turn()) == best) {
                return c;
            }
        }
        throw new IllegalStateException();
    }

    double meanRank(int player) {
        player(player);
        int sum = 0;
        for (int c : s.hands.get(player)) {
            sum += s.rank(c);
        }
        return sum == 0 ? 0 : (double) sum / (double) s.hands.get(player).size();
    }

    float share(int player) {
        player(player);
        return s.taken.isEmpty() ? 0 : (float) s.tricks(player) / (float) s.taken.size();
    }

    // ---- operations

    private void record() {
        history.push(s.copy());
        if (history.size() > 10) {
            history.removeLast();
        }
    }

    private static void range(int n, int low, int high) {
        if (n < low || n > high) {
            throw new IllegalArgumentException();
        }
    }

    int play(int card) {
        card(card);
        if (s.over()) {
            return -2;
        }
        if (!s.hands.get(s.turn()).contains(card)) {
            return -3;
        }
        if (!s.legal().contains(card)) {
            return -4;
        }
        record();
        s.put(card);
        return s.present().isEmpty() ? s.leader : s.players + s.turn();
    }

    int auto(int cards) {
        range(cards, 1, 52);
        if (s.over()) {
            return -2;
        }
        record();
        int n = 0;
        while (n < cards && !s.over()) {
            s.put(s.auto());
            n++;
        }
        return n;
    }

    int tell(int player, int tricks) {
        player(player);
        range(tricks, 0, s.held);
        if (!s.played.isEmpty()) {
            return -2;
        }
        record();
        int before = s.told[player];
        s.told[player] = tricks;
        return before + 1;
    }

    int deal(int seed) {
        range(seed, 0, 99999);
        if (!s.over()) {
            return -2;
        }
        record();
        s.firstLead = (s.firstLead + 1) % s.players;
        java.util.Arrays.fill(s.told, NONE);
        give(s, shuffled(s.total(), seed));
        s.beginHand();
        return s.firstLead;
    }

    int setTrump(int suit) {
        range(suit, -1, 3);
        if (!s.played.isEmpty()) {
            return -2;
        }
        record();
        int before = s.trumpTold;
        s.setTrump(suit);
        return before + 1;
    }

    int setRule(int rule) {
        range(rule, 0, 3);
        if (!s.present().isEmpty()) {
            return -2;
        }
        record();
        int before = s.rule;
        s.rule = rule;
        return before;
    }

    int setFade(int fade) {
        range(fade, 0, 9);
        record();
        int before = s.fade;
        s.fade = fade;
        return before;
    }

    int setRevive(boolean on) {
        record();
        boolean before = s.revive;
        s.revive = on;
        return before ? 1 : 0;
    }

    int format(int player) {
        player(player);
        List<String> words = new ArrayList<>();
        for (int c : s.hands.get(player)) {
            words.add("seia".charAt(s.suit(c)) + "" + s.rank(c));
        }
        formatted = words.isEmpty() ? "-" : String.join(" ", words);
        return formatted.length();
    }

    int formattedByte(int index) {
        return formatted == null || index < 0 || index >= formatted.length() ? NONE : formatted.charAt(index);
    }

    int undoCount() {
        return history.size();
    }

    int undo() {
        if (history.isEmpty()) {
            return NONE;
        }
        s = history.pop();
        return history.size();
    }

    void saveSnapshot() {
        snapshot = s.copy();
    }

    int restoreSnapshot() {
        if (snapshot == null) {
            return 0;
        }
        s = snapshot.copy();
        history.clear();
        return 1;
    }
}
