import java.util.ArrayList;
import java.util.List;
import java.util.Random;

/** Random runs of calls on an object and on the model of the document; the same runs each time. */
public final class RandomRunsTest {
    private static final int RUNS = 600;
    private static final int CALLS = 120;

    private final Check check = new Check();
    private final Random random;
    private final FadingTrumps x = new FadingTrumps();
    private final Model m = new Model();
    private final List<String> calls = new ArrayList<>();
    private final int run;
    private final int dearSearches;

    private RandomRunsTest(int run) {
        this.run = run;
        random = new Random(run);
        dearSearches = run % 40 == 0 ? 12 : 8;
    }

    public static void main(String[] args) {
        long answers = 0;
        for (int run = 0; run < RUNS; run++) {
            RandomRunsTest t = new RandomRunsTest(run);
            if (!t.go()) {
                System.out.println("1 passed, 1 failed");
                System.exit(1);
            }
            answers += t.count;
        }
        System.out.println(RUNS + " runs, " + answers + " answers as the model's");
        System.out.println(RUNS + " passed, 0 failed");
    }

    private long count;

    private boolean same(String call, Check.Call object, Check.Call model) {
        long got = Check.of(object);
        long want = Check.of(model);
        calls.add(call + " -> " + want);
        count++;
        if (got == want && want != Check.OTHER) {
            return true;
        }
        check.due("run " + run + ", " + call, got, want);
        System.out.println("the run: " + calls);
        return false;
    }

    private int below(int n) {
        return random.nextInt(n);
    }

    /** Mostly in the range, sometimes just outside it, seldom far off. */
    private int near(int low, int high) {
        int kind = below(30);
        if (kind == 0) {
            return low - 1;
        }
        if (kind == 1) {
            return high + 1;
        }
        if (kind == 2) {
            return random.nextInt();
        }
        return low + below(high - low + 1);
    }

    private boolean go() {
        boolean ok = all() && load();
        for (int i = 0; ok && i < CALLS; i++) {
            ok = operation();
            if (ok && below(6) == 0) {
                ok = all();
            }
            if (ok && below(4) == 0) {
                ok = query();
            }
        }
        return ok;
    }

    private boolean operation() {
        switch (below(22)) {
            case 0: case 1: case 2: case 3: case 4: {
                int c = legalOrAny();
                return same("play(" + c + ")", () -> x.play(c), () -> m.play(c));
            }
            case 5: case 6: {
                int n = below(3) == 0 ? near(1, 52) : 1 + below(4);
                return same("auto(" + n + ")", () -> x.auto(n), () -> m.auto(n));
            }
            case 7: case 8: {
                int p = near(0, m.s.players - 1);
                int t = near(0, m.s.held);
                return same("tell(" + p + ", " + t + ")", () -> x.tell(p, t), () -> m.tell(p, t));
            }
            case 9: case 10: {
                int n = near(0, 99999);
                return same("deal(" + n + ")", () -> x.deal(n), () -> m.deal(n));
            }
            case 11: {
                int n = near(-1, 3);
                return same("setTrump(" + n + ")", () -> x.setTrump(n), () -> m.setTrump(n));
            }
            case 12: {
                int n = near(0, 3);
                return same("setRule(" + n + ")", () -> x.setRule(n), () -> m.setRule(n));
            }
            case 13: {
                int n = near(0, 9);
                return same("setFade(" + n + ")", () -> x.setFade(n), () -> m.setFade(n));
            }
            case 14: {
                boolean b = random.nextBoolean();
                return same("setRevive(" + b + ")", () -> x.setRevive(b), () -> m.setRevive(b));
            }
            case 15: case 16: {
                boolean ok = true;
                for (int i = 1 + below(below(4) == 0 ? 12 : 2); ok && i > 0; i--) {
                    ok = same("undo()", () -> x.undo(), () -> m.undo());
                }
                return ok;
            }
            case 17:
                x.saveSnapshot();
                m.saveSnapshot();
                calls.add("saveSnapshot()");
                return true;
            case 18:
                return same("restoreSnapshot()", () -> Check.flag(x.restoreSnapshot()), () -> m.restoreSnapshot());
            case 19: {
                int p = near(0, m.s.players - 1);
                return same("format(" + p + ")", () -> x.format(p), () -> m.format(p));
            }
            case 20:
                return below(10) > 0 || load();
            default: {
                int n = 3 + below(4);
                return same("auto(" + n + ")", () -> x.auto(n), () -> m.auto(n));
            }
        }
    }

    private int legalOrAny() {
        List<Integer> legal = m.s.legal();
        if (legal.isEmpty() || below(4) == 0) {
            return near(0, m.s.total() - 1);
        }
        return legal.get(below(legal.size()));
    }

    // ---- texts

    private boolean feedAll(String text) {
        boolean ok = true;
        for (int i = 0; ok && (i == 0 || i < text.length()); i += 20) {
            int[] w = Check.words(text, i);
            ok = same("feed", () -> x.feed(w[0], w[1], w[2], w[3], w[4]), () -> m.feed(w));
        }
        return ok;
    }

    private boolean load() {
        String text = gameText();
        int length = below(40) == 0 ? near(0, text.length()) : text.length();
        return feedAll(text) && same("load(" + length + ") of " + text, () -> x.load(length), () -> m.load(length))
            && same("errorPosition()", () -> x.errorPosition(), () -> m.errorAt) && all();
    }

    private String number(int low, int high) {
        int kind = below(120);
        if (kind == 0) {
            return String.valueOf(high + 1);
        }
        if (kind == 1) {
            return low > 0 ? String.valueOf(low - 1) : "99999999999999999999";
        }
        String zeros = kind == 2 ? "000" : "";
        return zeros + (low + below(high - low + 1));
    }

    private String gameText() {
        StringBuilder b = new StringBuilder("blue ");
        int ranks = 4 + below(10);
        int players = 2 + below(3);
        int most = Math.min(13, 4 * ranks / players);
        int held = below(3) > 0 ? Math.min(most, 1 + below(13 / players)) : 1 + below(most);
        b.append(ranks).append(' ').append(number(players, players)).append(' ').append(number(held, held));
        if (below(3) > 0) {
            b.append(" rule ").append(number(0, 3));
        }
        if (below(4) > 0) {
            b.append(" trump ").append(number(0, 3));
            if (below(2) == 0) {
                b.append(" glow ").append(below(3) == 0 ? number(0, 30) : number(0, 6));
            }
            if (below(2) == 0) {
                b.append(" fade ").append(number(0, 9));
            }
            if (below(2) == 0) {
                b.append(" revive");
            }
        }
        if (below(3) == 0) {
            b.append(" lead ").append(number(0, players - 1));
        }
        if (below(3) > 0) {
            b.append(" seed ").append(number(0, 99999));
        }
        b.append(';');
        List<Integer> row = new ArrayList<>();
        for (int c = 0; c < 4 * ranks; c++) {
            row.add(c);
        }
        int[] told = new int[players];
        for (int i = below(3); i > 0; i--) {
            int p = below(players);
            int n = 1 + below(held);
            if (told[p] + n > held && below(8) > 0) {
                n = held - told[p];
            }
            if (n == 0) {
                continue;
            }
            told[p] += n;
            b.append(below(5) == 0 ? "\nhand " : " hand ").append(number(p, p));
            for (int k = 0; k < n && !row.isEmpty(); k++) {
                int c = below(60) == 0 ? below(4 * ranks) : row.remove(below(row.size()));
                b.append(' ').append(number(c, c));
            }
            b.append(" ;");
        }
        int teller = below(players);
        for (int i = below(3); i > 0; i--) {
            b.append("tell ").append(teller).append(' ').append(number(0, held)).append(';');
            teller = below(12) == 0 ? teller : (teller + 1) % players;
        }
        return spoilt(b);
    }

    /** Most texts as they are; in some a sign is changed, put in, taken out, or the text is cut. */
    private String spoilt(StringBuilder b) {
        if (below(5) == 0) {
            int at = below(b.length());
            char sign = " \nabcdenorstuv0159;;()<=>A\tz\u00e9\u0000".charAt(below(30));
            switch (below(4)) {
                case 0: b.setCharAt(at, sign); break;
                case 1: b.insert(at, sign); break;
                case 2: b.deleteCharAt(at); break;
                default: b.setLength(at);
            }
        }
        if (b.length() > 500) {
            b.setLength(500);
        }
        return b.toString();
    }

    private boolean query() {
        StringBuilder b = new StringBuilder(below(2) == 0 ? "many " : "first ");
        test(b, 1 + below(5));
        String text = spoilt(b);
        if (text.length() > 200 && below(4) > 0) {
            text = text.substring(0, 200);
        }
        String t = text;
        int length = below(40) == 0 ? near(0, t.length()) : t.length();
        return feedAll(t) && same("query(" + length + ") of " + t, () -> x.query(length), () -> m.query(length))
            && same("errorPosition()", () -> x.errorPosition(), () -> m.errorAt);
    }

    private void test(StringBuilder b, int depth) {
        factor(b, depth);
        while (below(5) < 2) {
            b.append(below(2) == 0 ? " and " : " or ");
            factor(b, depth);
        }
    }

    private void factor(StringBuilder b, int depth) {
        int kind = depth > 0 ? below(5) : 4;
        if (kind == 0) {
            b.append("not ");
            if (below(12) == 0) {
                b.append("not not not ");
            }
            factor(b, depth - 1);
        } else if (kind == 1) {
            b.append("(");
            test(b, depth - 1);
            b.append(")");
        } else {
            value(b);
            b.append("<=>".charAt(below(3)));
            value(b);
        }
    }

    private void value(StringBuilder b) {
        String[] names = {"card", "suit", "rank", "holder", "played", "power", "legal", "trump"};
        int kind = below(14);
        b.append(below(6) == 0 ? " " : "");
        if (kind < 8) {
            b.append(names[kind]);
        } else {
            int most = kind == 8 ? 40 : kind == 9 ? 10010 : 4;
            b.append(kind == 10 ? "00" : "").append(below(most));
        }
        b.append(below(6) == 0 ? " " : "");
    }

    // ---- everything that can be asked

    private boolean all() {
        boolean ok = true;
        for (int i = -1; ok && i <= 14; i++) {
            int w = i;
            ok = same("size(" + w + ")", () -> x.size(w), () -> m.size(w));
        }
        for (int i = -1; ok && i <= m.s.total(); i++) {
            ok = ofCard(i);
        }
        for (int i = -1; ok && i <= m.s.players; i++) {
            ok = ofPlayer(i);
        }
        ok = ok && ofHand();
        return ok && same("legal()", () -> x.legal(), () -> m.legal())
            && same("led()", () -> x.led(), () -> m.led())
            && same("winning()", () -> x.winning(), () -> m.winning())
            && same("darkIn()", () -> x.darkIn(), () -> m.darkIn())
            && same("undoCount()", () -> x.undoCount(), () -> m.undoCount())
            && same("errorPosition()", () -> x.errorPosition(), () -> m.errorAt)
            && searches();
    }

    private boolean searches() {
        int n = m.s.cardsInHands();
        if (n > dearSearches && n <= 12) {
            return true;
        }
        boolean cardFirst = random.nextBoolean();
        return (!cardFirst || sureCard()) && same("sure()", () -> x.sure(), () -> m.sure())
            && (cardFirst || sureCard());
    }

    private boolean sureCard() {
        return same("sureCard()", () -> x.sureCard(), () -> m.sureCard());
    }

    private boolean ofCard(int c) {
        return same("suit(" + c + ")", () -> x.suit(c), () -> m.suit(c))
            && same("rank(" + c + ")", () -> x.rank(c), () -> m.rank(c))
            && same("holder(" + c + ")", () -> x.holder(c), () -> m.holder(c))
            && same("isLegal(" + c + ")", () -> Check.flag(x.isLegal(c)), () -> m.isLegal(c))
            && same("power(" + c + ")", () -> x.power(c), () -> m.power(c))
            && same("wouldLead(" + c + ")", () -> Check.flag(x.wouldLead(c)), () -> m.wouldLead(c))
            && same("isMaster(" + c + ")", () -> Check.flag(x.isMaster(c)), () -> m.isMaster(c));
    }

    private boolean ofPlayer(int p) {
        boolean ok = same("held(" + p + ")", () -> x.held(p), () -> m.held(p))
            && same("tricks(" + p + ")", () -> x.tricks(p), () -> m.tricks(p))
            && same("told(" + p + ")", () -> x.told(p), () -> m.told(p))
            && same("result(" + p + ")", () -> x.result(p), () -> m.result(p))
            && same("points(" + p + ")", () -> x.points(p), () -> m.points(p))
            && same("ranking(" + p + ")", () -> x.ranking(p), () -> m.ranking(p))
            && same("unseen(" + p + ")", () -> x.unseen(p), () -> m.unseen(p))
            && same("masters(" + p + ")", () -> x.masters(p), () -> m.masters(p))
            && same("meanRank(" + p + ")", () -> Double.doubleToLongBits(x.meanRank(p)),
                () -> Double.doubleToLongBits(m.meanRank(p)))
            && same("share(" + p + ")", () -> Float.floatToIntBits(x.share(p)), () -> Float.floatToIntBits(m.share(p)));
        for (int i = -1; ok && i <= 4; i++) {
            int s = i;
            ok = same("ofSuit(" + p + ", " + s + ")", () -> x.ofSuit(p, s), () -> m.ofSuit(p, s))
                && same("lacks(" + p + ", " + s + ")", () -> Check.flag(x.lacks(p, s)), () -> m.lacks(p, s));
        }
        for (int i = -1; ok && i <= 13; i++) {
            int k = i;
            ok = same("inHand(" + p + ", " + k + ")", () -> x.inHand(p, k), () -> m.inHand(p, k));
        }
        for (int i = -1; ok && i <= m.s.total(); i++) {
            int c = i;
            ok = same("could(" + p + ", " + c + ")", () -> Check.flag(x.could(p, c)), () -> m.could(p, c));
        }
        return ok;
    }

    private boolean ofHand() {
        boolean ok = true;
        for (int i = -1; ok && i <= 52; i++) {
            int k = i;
            for (int j = -1; ok && j <= 3; j++) {
                int w = j;
                ok = same("played(" + k + ", " + w + ")", () -> x.played(k, w), () -> m.played(k, w));
            }
            ok = ok && same("formattedByte(" + k + ")", () -> x.formattedByte(k), () -> m.formattedByte(k));
        }
        for (int i = -1; ok && i <= 13; i++) {
            int k = i;
            for (int j = -1; ok && j <= 6; j++) {
                int w = j;
                ok = same("trick(" + k + ", " + w + ")", () -> x.trick(k, w), () -> m.trick(k, w));
            }
        }
        return ok;
    }
}
