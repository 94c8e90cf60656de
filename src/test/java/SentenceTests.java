import java.util.ArrayList;
import java.util.List;

/**
 * What the tests of the document's sentences share: games, wrong arguments, all answers of an object as one text. (To
 * ask for all takes more than the 512 calls for which an object is promised to answer; the class has no such end.)
 */
abstract class SentenceTests {
    static final int NONE = FadingTrumps.NONE;
    static final int HIDDEN = FadingTrumps.HIDDEN;
    static final int MIN = Integer.MIN_VALUE;
    static final int MAX = Integer.MAX_VALUE;

    /** Player 0: sky 1 and sea 2; player 1: sky 2 and ink 1; player 2: sea 1 and ink 2. Sea is trump. */
    static final String THREE = "blue 4 3 2 rule 1 trump 1 glow 3 fade 2 lead 1;hand 0 0 5;hand 1 1 8;hand 2 4 9;";

    final Doc doc;
    final Check check;

    interface Asked {
        long of(int argument);
    }

    interface Told {
        int to(FadingTrumps game);
    }

    interface Failing {
        void as(String text, int code, int at);
    }

    SentenceTests(Doc doc, Check check) {
        this.doc = doc;
        this.check = check;
    }

    abstract void all();

    // ---- what is due

    void due(String what, long got, long want) {
        check.due(what, got, want);
    }

    void yes(String what, boolean got) {
        check.due(what, Check.flag(got), 1);
    }

    void no(String what, boolean got) {
        check.due(what, Check.flag(got), 0);
    }

    void same(String what, String got, String want) {
        check.due(what + ": " + got + " (due is " + want + ")", Check.flag(got.equals(want)), 1);
    }

    void noSuch(String what, Check.Call call) {
        check.noSuch(what, call);
    }

    void illegal(String what, Check.Call call) {
        check.illegal(what, call);
    }

    /** The numbers from 0 to below count are taken, all others are not. */
    void only(String what, int count, Asked asked) {
        for (int i = 0; i < count; i++) {
            int number = i;
            long answer = Check.of(() -> asked.of(number));
            yes(what + "(" + i + ") answers", answer != Check.NO_SUCH && answer != Check.ILLEGAL
                && answer != Check.OTHER);
        }
        for (int wrong : new int[] {-1, -2, count, count + 1, MIN, MAX, 1 << 30, 64 + count - 1, -count}) {
            if (wrong < 0 || wrong >= count) {
                noSuch(what + "(" + wrong + ")", () -> asked.of(wrong));
            }
        }
    }

    void illegalOutside(String what, int least, int most, Asked asked) {
        for (int wrong : new int[] {least - 1, most + 1, least - 2, most + 100, MIN, MAX}) {
            illegal(what + "(" + wrong + ")", () -> asked.of(wrong));
        }
    }

    /** A call that changes nothing of an object. */
    void changesNothing(String what, FadingTrumps x, Runnable call) {
        String before = allOf(x);
        call.run();
        same("nothing changes by " + what, allOf(x), before);
    }

    /** A text is read, or has an error at a place. */
    void reads(String text) {
        FadingTrumps x = new FadingTrumps();
        yes("the text '" + text + "' is read", Check.load(x, text) > 0);
        due("the error position behind '" + text + "'", x.errorPosition(), NONE);
    }

    void fails(String text, int code, int at) {
        FadingTrumps x = new FadingTrumps();
        due("load of '" + text + "'", Check.load(x, text), -10 - code);
        due("the error position of '" + text + "'", x.errorPosition(), at);
    }

    /** A number of a text from the least one to the most one, with what stands before and behind it. */
    void range(String before, int least, int most, String behind) {
        reads(before + least + behind);
        reads(before + most + behind);
        reads(before + "000000000000000000000000" + most + behind);
        if (least > 0) {
            fails(before + (least - 1) + behind, 2, before.length());
        }
        fails(before + (most + 1) + behind, 2, before.length());
        fails(before + "00" + (most + 1) + behind, 2, before.length());
        // numbers that would be in the range if they ran over an int or a long
        fails(before + ((1L << 32) + least) + behind, 2, before.length());
        fails(before + ("18446744073709551616".substring(0, 17) + (616 + least)) + behind, 2, before.length());
        fails(before + "-" + least + behind, 1, before.length());
        if (!behind.trim().matches("\\d.*")) {
            fails(before + behind, 1, before.length() + blanks(behind));
        }
    }

    /** Each letter of each word of a text counts, and no word may be longer or shorter. */
    void eachLetter(String text, Failing fails) {
        int start = 0;
        for (int i = 0; i < text.length(); i++) {
            if (!Character.isLetter(text.charAt(i))) {
                continue;
            }
            if (i == 0 || !Character.isLetter(text.charAt(i - 1))) {
                start = i;
            }
            fails.as(text.substring(0, i) + "q" + text.substring(i + 1), 1, start);
            fails.as(text.substring(0, i) + text.substring(i + 1), 1, start);
            fails.as(text.substring(0, i) + text.charAt(i) + text.substring(i), 1, start);
        }
    }

    private static int blanks(String text) {
        int count = 0;
        while (count < text.length() && text.charAt(count) == ' ') {
            count++;
        }
        return count;
    }

    // ---- games

    static FadingTrumps game(String text) {
        return Check.loaded(text);
    }

    void plays(FadingTrumps x, int... cards) {
        for (int card : cards) {
            yes("the card " + card + " is played", x.play(card) >= 0);
        }
    }

    /** The cards that the player whose turn it is may play. */
    static String legalOf(FadingTrumps x) {
        List<Integer> cards = new ArrayList<>();
        for (int card = 0; card < 4 * x.size(0); card++) {
            if (x.isLegal(card)) {
                cards.add(card);
            }
        }
        return cards.toString().replaceAll("[\\[\\],]", "") + (cards.size() == x.legal() ? "" : " but legal() differs");
    }

    static List<Integer> handOf(FadingTrumps x, int player) {
        List<Integer> cards = new ArrayList<>();
        for (int index = 0; index < x.held(player); index++) {
            cards.add(x.inHand(player, index));
        }
        return cards;
    }

    static String handsOf(FadingTrumps x) {
        StringBuilder b = new StringBuilder();
        for (int player = 0; player < x.size(1); player++) {
            b.append(player > 0 ? "/" : "").append(handOf(x, player).toString().replaceAll("[\\[\\],]", ""));
        }
        return b.toString();
    }

    static String sizesOf(FadingTrumps x) {
        StringBuilder b = new StringBuilder();
        for (int what = 0; what < 14; what++) {
            b.append(what > 0 ? " " : "").append(x.size(what));
        }
        return b.toString();
    }

    /** The trump and the glow. */
    static String lightOf(FadingTrumps x) {
        return x.size(4) + " " + x.size(5);
    }

    /** Everything that undoing restores, as far as it can be asked. */
    static String stateOf(FadingTrumps x) {
        StringBuilder b = new StringBuilder(sizesOf(x)).append(" hands ").append(handsOf(x));
        b.append(" legal ").append(legalOf(x)).append(" led ").append(x.led()).append(" winning ").append(x.winning());
        for (int player = 0; player < x.size(1); player++) {
            b.append(" player ").append(x.told(player)).append(' ').append(x.tricks(player)).append(' ');
            b.append(x.result(player)).append(' ').append(x.points(player)).append(' ').append(x.ranking(player));
            b.append(' ').append(x.unseen(player)).append(' ').append(x.masters(player)).append(' ');
            b.append(x.meanRank(player)).append(' ').append(x.share(player));
            for (int suit = 0; suit < 4; suit++) {
                b.append(x.lacks(player, suit) ? " lacks" : " -").append(x.ofSuit(player, suit));
            }
        }
        for (int card = 0; card < 4 * x.size(0); card++) {
            b.append(" card ").append(x.holder(card)).append(' ').append(x.power(card));
            b.append(x.isMaster(card) ? "m" : "").append(x.wouldLead(card) ? "w" : "");
            b.append(x.could(0, card) ? "c" : "");
        }
        for (int i = 0; i < x.size(12); i++) {
            b.append(" played ").append(x.played(i, 0)).append(' ').append(x.played(i, 1)).append(' ');
            b.append(x.played(i, 2));
        }
        for (int i = 0; i < x.size(11); i++) {
            b.append(" trick");
            for (int what = 0; what < 6; what++) {
                b.append(' ').append(x.trick(i, what));
            }
        }
        return b.append(" dark ").append(x.darkIn()).append(" sure ").append(x.sure()).append(' ').append(x.sureCard())
            .toString();
    }

    /** The same with what undoing does not restore. */
    static String allOf(FadingTrumps x) {
        StringBuilder b = new StringBuilder(stateOf(x));
        b.append(" undos ").append(x.undoCount()).append(" error ").append(x.errorPosition()).append(" text ");
        for (int i = 0; i < 52; i++) {
            b.append(x.formattedByte(i)).append(' ');
        }
        return b.toString();
    }

    static String formatOf(FadingTrumps x, int player) {
        return Check.format(x, player);
    }
}
