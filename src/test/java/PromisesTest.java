/** For each promise of the document: ordinary answers, its edges, and wrong arguments, all worked out by hand. */
public final class PromisesTest {
    private static final int NONE = FadingTrumps.NONE;
    private static final int MIN = Integer.MIN_VALUE;
    private static final int MAX = Integer.MAX_VALUE;

    /** Player 0: sky 1 and sea 2; player 1: sky 2 and ink 1; player 2: sea 1 and ink 2. Sea is trump. */
    private static final String THREE =
        "blue 4 3 2 rule 1 trump 1 glow 3 fade 2 lead 1;hand 0 0 5;hand 1 1 8;hand 2 4 9;";

    private static final Check C = new Check();

    interface Asked {
        long of(int argument);
    }

    public static void main(String[] args) {
        newObject();
        buffer();
        loading();
        loadErrors();
        errorPositions();
        sizes();
        suitsAndRanks();
        hands();
        rules();
        presentTrick();
        playedCards();
        told();
        pointsAndRanking();
        known();
        masters();
        darkIn();
        sure();
        glowAndSure();
        means();
        play();
        fading();
        auto();
        tell();
        deal();
        setTrump();
        settings();
        format();
        undo();
        snapshots();
        queries();
        queryErrors();
        C.end();
    }

    private static void noSuchOutside(String what, int count, Asked asked) {
        int[] wrong = {-1, count, count + 1, MIN, MAX};
        for (int w : wrong) {
            C.noSuch(what + "(" + w + ")", () -> asked.of(w));
        }
    }

    private static void illegalOutside(String what, int low, int high, Asked asked) {
        int[] wrong = {low - 1, high + 1, MIN, MAX};
        for (int w : wrong) {
            C.illegal(what + "(" + w + ")", () -> asked.of(w));
        }
    }

    private static void playAll(FadingTrumps x, int... cards) {
        for (int card : cards) {
            if (x.play(card) < 0) {
                C.due("the card " + card, -1, 0);
            }
        }
    }

    private static String sizesOf(FadingTrumps x) {
        StringBuilder b = new StringBuilder();
        for (int what = 0; what < 14; what++) {
            b.append(x.size(what)).append(' ');
        }
        return b.toString().trim();
    }

    private static void dueText(String what, String got, String want) {
        C.due(what + ": " + got + " (due is " + want + ")", Check.flag(got.equals(want)), 1);
    }

    // ---- 1

    private static void newObject() {
        FadingTrumps x = new FadingTrumps();
        C.due("NONE", FadingTrumps.NONE, -1);
        C.due("HIDDEN", FadingTrumps.HIDDEN, -1000000000);
        dueText("sizes of a new object", sizesOf(x), "9 2 5 1 -1 0 10 2 0 0 0 0 0 0");
        dueText("hand 0 of a new object", Check.format(x, 0), "i2 i3 i5 i9 a5");
        dueText("hand 1 of a new object", Check.format(x, 1), "s4 s5 e5 e6 e7");
        C.due("undoCount", x.undoCount(), 0);
        C.due("undo", x.undo(), NONE);
        C.due("restoreSnapshot", Check.flag(x.restoreSnapshot()), 0);
        C.due("errorPosition", x.errorPosition(), NONE);
        C.due("formattedByte", new FadingTrumps().formattedByte(0), NONE);
        C.due("points", x.points(0) + x.points(1), 0);
        C.due("told", x.told(0), NONE);
    }

    // ---- 2, 3, 4

    private static void buffer() {
        FadingTrumps x = new FadingTrumps();
        for (int i = 1; i <= 25; i++) {
            C.due("feed " + i, x.feed(0x626c7565, 0x20392032, 0x20353b20, 0x20202020, 0x20202020), 20 * i);
        }
        C.due("feed 26", x.feed(0, 0, 0, 0, 0), NONE);
        C.due("nothing was appended", Check.of(() -> x.load(501)), Check.ILLEGAL);
        C.due("load(11)", x.load(11), 10);
        C.due("the buffer is empty", x.feed(0, 0, 0, 0, 0), 20);
        C.due("load of zeros", x.load(20), -11);
        C.due("the buffer is empty behind an error", x.feed(0, 0, 0, 0, 0), 20);
        C.due("query of zeros", x.query(20), FadingTrumps.HIDDEN - 1);
        C.due("the buffer is empty behind a query", x.feed(0, 0, 0, 0, 0), 20);
        FadingTrumps y = new FadingTrumps();
        for (int i = 0; i < 25; i++) {
            y.feed(0x20202020, 0x20202020, 0x20202020, 0x20202020, 0x20202020);
        }
        C.due("load of 500 blanks", y.load(500), -11);
        C.due("position", y.errorPosition(), 500);
    }

    private static void loading() {
        FadingTrumps x = Check.loaded("blue 4 3 2 seed 7;");
        dueText("dealt in turn", Check.format(x, 0) + "/" + Check.format(x, 1) + "/" + Check.format(x, 2),
            "e4 i2/s1 a2/e1 i4");
        x = Check.loaded("blue 4 3 2 seed 7;hand 1 4;");
        // the row of the seed 7 begins 7 13 (4) 9 0 11
        dueText("filled up", Check.format(x, 0) + "/" + Check.format(x, 1) + "/" + Check.format(x, 2),
            "e4 a2/e1 i2/s1 i4");
        x = Check.loaded("blue 9 2 5 seed 0;");
        dueText("seed 0", Check.format(x, 0), "i2 i3 i5 i9 a5");
        x = Check.loaded("blue 13 4 13 seed 99999;");
        dueText("hand 3 of the largest game", Check.format(x, 3),
            "s5 s13 e1 e3 e7 e9 e13 i4 i6 i7 i9 a3 a5");
        C.due("size(2)", x.size(2), 13);
        x = Check.loaded(" \nblue0004 2\n00003rule0trump3glow30fade9revive lead1seed00099999;");
        dueText("all of the head", sizesOf(x), "4 2 3 0 3 30 30 9 1 1 1 0 0 0");
        dueText("seed 99999", Check.format(x, 0), "s4 i3 a3");
        x = Check.loaded("blue 4 2 3 trump 2;tell 1 3;hand 0 1;tell 0 0;hand 0 2;\n");
        dueText("without glow and fade", sizesOf(x), "4 2 3 1 2 10 10 2 0 0 0 0 0 0");
        C.due("told(0)", x.told(0), 0);
        C.due("told(1)", x.told(1), 3);
        dueText("two clauses for one hand", Check.format(x, 0), "s2 s3 a2");
        x = Check.loaded("blue 4 2 3 trump 2 glow 0 revive;");
        C.due("a trump without a glow", x.size(4), 2);
        C.due("a trump without a glow", x.size(5), 0);
        C.due("revive", x.size(8), 1);
        loadReplaces();
    }

    private static void loadReplaces() {
        FadingTrumps x = Check.loaded(THREE);
        x.format(0);
        x.saveSnapshot();
        x.auto(52);
        C.due("undoCount", x.undoCount(), 1);
        C.due("an error", Check.load(x, "blue 4 2 9;"), -12);
        C.due("nothing but the position changes", x.errorPosition(), 9);
        C.due("undoCount behind an error", x.undoCount(), 1);
        C.due("size(13) behind an error", x.size(13), 1);
        C.due("size(1) behind an error", x.size(1), 3);
        C.due("a snapshot behind an error", Check.flag(x.restoreSnapshot()), 1);
        x.auto(52);
        C.due("load(-1)", Check.of(() -> x.load(-1)), Check.ILLEGAL);
        C.due("load(1)", Check.of(() -> x.load(1)), Check.ILLEGAL);
        C.due("load(MIN)", Check.of(() -> x.load(MIN)), Check.ILLEGAL);
        C.due("errorPosition behind an exception", x.errorPosition(), 9);
        C.due("a new text", Check.load(x, "blue 4 2 3;"), 6);
        dueText("sizes", sizesOf(x), "4 2 3 1 -1 0 10 2 0 0 0 0 0 0");
        C.due("points are anew", x.points(0) + x.points(1), 0);
        C.due("undoCount is 0", x.undoCount(), 0);
        C.due("no snapshot", Check.flag(x.restoreSnapshot()), 0);
        C.due("errorPosition", x.errorPosition(), NONE);
        dueText("the text of format stays", Check.shownText(x, 5), "s1 e2");
        C.due("ranking(2)", Check.of(() -> x.ranking(2)), Check.NO_SUCH);
    }

    private static void loadError(String text, int code, int at) {
        FadingTrumps x = new FadingTrumps();
        C.due("load of '" + text + "'", Check.load(x, text), -10 - code);
        C.due("the position in '" + text + "'", x.errorPosition(), at);
        dueText("nothing changes by '" + text + "'", sizesOf(x), "9 2 5 1 -1 0 10 2 0 0 0 0 0 0");
    }

    private static void loadErrors() {
        loadError("", 1, 0);
        loadError("  ", 1, 2);
        loadError("blu 4 2 3;", 1, 0);
        loadError("blues 4 2 3;", 1, 0);
        loadError(" Blue 4 2 3;", 1, 1);
        loadError("blue", 1, 4);
        loadError("blue ;", 1, 5);
        loadError("blue 3 2 3;", 2, 5);
        loadError("blue 14 2 3;", 2, 5);
        loadError("blue 4294967300 2 3;", 2, 5);
        loadError("blue 4 1 3;", 2, 7);
        loadError("blue 4 5 3;", 2, 7);
        loadError("blue 4 2 0;", 2, 9);
        loadError("blue 4 2 9;", 2, 9);
        loadError("blue 4 3 6;", 2, 9);
        loadError("blue 13 2 14;", 2, 10);
        loadError("blue 4 2 3", 1, 10);
        loadError("blue 4 2 3 \n ", 1, 13);
        loadError("blue 4 2 3 rule;", 1, 15);
        loadError("blue 4 2 3 rule 4;", 2, 16);
        loadError("blue 4 2 3 trump 4;", 2, 17);
        loadError("blue 4 2 3 trump 0 glow 31;", 2, 24);
        loadError("blue 4 2 3 trump 0 fade 10;", 2, 24);
        loadError("blue 4 2 3 trump 0 fade 1 glow 2;", 1, 26);
        loadError("blue 4 2 3 trump 0 revive revive;", 1, 26);
        loadError("blue 4 2 3 trump 0 revive 1;", 1, 26);
        loadError("blue 4 2 3 revive;", 1, 11);
        loadError("blue 4 2 3 glow 3;", 1, 11);
        loadError("blue 4 2 3 trump 0 rule 1;", 1, 19);
        loadError("blue 4 2 3 rule 1 rule 1;", 1, 18);
        loadError("blue 4 2 3 lead 2;", 2, 16);
        loadError("blue 4 2 3 seed 100000;", 2, 16);
        loadError("blue 4 2 3 seed 1 lead 1;", 1, 18);
        loadError("blue 4 2 3 seed 1;;", 1, 18);
        loadError("blue 4 2 3; 5", 1, 12);
        loadError("blue 4 2 3;hands 0 1;", 1, 11);
        loadError("blue 4 2 3;hand 2 1;", 2, 16);
        loadError("blue 4 2 3;hand 0;", 1, 17);
        loadError("blue 4 2 3;hand 0", 1, 17);
        loadError("blue 4 2 3;hand 0 16;", 2, 18);
        loadError("blue 4 2 3;hand 0 1 2 1;", 3, 22);
        loadError("blue 4 2 3;hand 0 1 2 3 4;", 3, 24);
        loadError("blue 4 2 3;hand 0 1 2 3 16;", 2, 24);
        loadError("blue 4 2 3;hand 0 1;hand 1 1;", 3, 27);
        loadError("blue 4 2 3;hand 0 1 2;hand 0 3 4;", 3, 31);
        loadError("blue 4 2 3;hand 0 1 tell 0 1;", 1, 20);
        loadError("blue 4 2 3;hand 0 1", 1, 19);
        loadError("blue 4 2 3;tell 2 1;", 2, 16);
        loadError("blue 4 2 3;tell 0;", 1, 17);
        loadError("blue 4 2 3;tell 0 4;", 2, 18);
        loadError("blue 4 2 3;tell 0 3 1;", 1, 20);
        loadError("blue 4 2 3;tell 0 3;tell 0 9;", 3, 25);
        loadError("blue\t4 2 3;", 1, 4);
        loadError("blue 4 2 3\u00e9;", 1, 10);
        loadError("blue 4 2 3;(", 1, 11);
        loadError("blue 4 -2 3;", 1, 7);
        loadError("blue 4 2 3;hand 0 1;!\u0000", 1, 20);
    }

    private static void errorPositions() {
        FadingTrumps x = new FadingTrumps();
        Check.load(x, "blue 4 2 9;");
        C.due("position of load", x.errorPosition(), 9);
        Check.query(x, "many rank 1");
        C.due("position of query", x.errorPosition(), 10);
        Check.query(x, "many rank=1");
        C.due("position of a query without an error", x.errorPosition(), NONE);
        Check.query(x, "many");
        C.due("position at the end", x.errorPosition(), 4);
        Check.load(x, "blue 4 2 3;");
        C.due("position of a load without an error", x.errorPosition(), NONE);
        Check.load(x, "red");
        x.setRule(2);
        x.undo();
        C.due("position behind undo", x.errorPosition(), 0);
    }

    // ---- 5 to 11

    private static void sizes() {
        FadingTrumps x = Check.loaded(THREE);
        dueText("sizes", sizesOf(x), "4 3 2 1 1 3 3 2 0 1 1 0 0 0");
        x.play(1);
        dueText("sizes in a trick", sizesOf(x), "4 3 2 1 1 3 3 2 0 2 1 0 1 0");
        playAll(x, 4, 0);
        dueText("sizes behind a trick", sizesOf(x), "4 3 2 1 1 1 3 2 0 2 2 1 3 0");
        playAll(x, 9, 5, 8);
        dueText("sizes behind a hand", sizesOf(x), "4 3 2 1 -1 0 3 2 0 -1 0 2 6 1");
        noSuchOutside("size", 14, w -> x.size(w));
    }

    private static void suitsAndRanks() {
        FadingTrumps x = Check.loaded("blue 13 4 2;");
        int[] cards = {0, 12, 13, 25, 26, 38, 39, 51};
        int[] suits = {0, 0, 1, 1, 2, 2, 3, 3};
        for (int i = 0; i < cards.length; i++) {
            C.due("suit(" + cards[i] + ")", x.suit(cards[i]), suits[i]);
            C.due("rank(" + cards[i] + ")", x.rank(cards[i]), i % 2 == 0 ? 1 : 13);
        }
        noSuchOutside("suit", 52, x::suit);
        noSuchOutside("rank", 52, x::rank);
        FadingTrumps y = Check.loaded("blue 4 2 3;");
        C.due("suit(15)", y.suit(15), 3);
        C.due("rank(14)", y.rank(14), 3);
        noSuchOutside("suit", 16, y::suit);
        noSuchOutside("rank", 16, y::rank);
    }

    private static void hands() {
        FadingTrumps x = Check.loaded(THREE);
        C.due("holder(5)", x.holder(5), 0);
        C.due("holder(8)", x.holder(8), 1);
        C.due("holder(9)", x.holder(9), 2);
        C.due("holder(2)", x.holder(2), NONE);
        C.due("held(1)", x.held(1), 2);
        C.due("inHand(1, 0)", x.inHand(1, 0), 1);
        C.due("inHand(1, 1)", x.inHand(1, 1), 8);
        C.due("ofSuit(1, 0)", x.ofSuit(1, 0), 1);
        C.due("ofSuit(1, 1)", x.ofSuit(1, 1), 0);
        x.play(1);
        C.due("holder(1)", x.holder(1), NONE);
        C.due("held(1)", x.held(1), 1);
        C.due("inHand(1, 0)", x.inHand(1, 0), 8);
        C.due("ofSuit(1, 0)", x.ofSuit(1, 0), 0);
        C.noSuch("inHand(1, 1)", () -> x.inHand(1, 1));
        C.noSuch("inHand(1, -1)", () -> x.inHand(1, -1));
        noSuchOutside("inHand", 3, w -> x.inHand(w, 0));
        noSuchOutside("holder", 16, x::holder);
        noSuchOutside("held", 3, x::held);
        noSuchOutside("ofSuit", 3, w -> x.ofSuit(w, 0));
        noSuchOutside("ofSuit of a suit", 4, w -> x.ofSuit(0, w));
    }

    // ---- 12, 13: what one may play

    private static String legal(FadingTrumps x, int cards) {
        StringBuilder b = new StringBuilder();
        int count = 0;
        for (int card = 0; card < cards; card++) {
            if (x.isLegal(card)) {
                b.append(card).append(' ');
                count++;
            }
        }
        C.due("legal()", x.legal(), count);
        return b.toString().trim();
    }

    /** What player 1 may play behind the card that player 0 leads. */
    private static String answering(String head, int led, String hand) {
        FadingTrumps x = Check.loaded("blue 4 2 3 " + head + ";hand 0 " + led + ";hand 1 " + hand + ";");
        x.play(led);
        return legal(x, 16);
    }

    private static void rules() {
        FadingTrumps x = Check.loaded(THREE);
        dueText("who leads", legal(x, 16), "1 8");
        C.due("isLegal of another hand", Check.flag(x.isLegal(0)), 0);
        noSuchOutside("isLegal", 16, w -> Check.flag(x.isLegal(w)));
        dueText("rule 0", answering("rule 0 trump 1", 1, "0 3 4"), "0 3 4");
        dueText("rule 1", answering("rule 1 trump 1", 1, "0 3 4"), "0 3");
        dueText("rule 1 without the suit", answering("rule 1 trump 1", 1, "4 8 12"), "4 8 12");
        dueText("rule 2", answering("rule 2 trump 1", 1, "0 3 4"), "3");
        dueText("rule 2, two higher", answering("rule 2 trump 1", 1, "2 3 4"), "2 3");
        dueText("rule 2 without higher", answering("rule 2 trump 1", 3, "0 2 4"), "0 2");
        dueText("rule 2 without the suit", answering("rule 2 trump 1", 3, "4 8 12"), "4 8 12");
        dueText("rule 2, trump led", answering("rule 2 trump 1 glow 30", 5, "4 6 8"), "6");
        dueText("rule 2, highest trump led", answering("rule 2 trump 1 glow 30", 7, "4 6 8"), "4 6");
        dueText("rule 3", answering("rule 3 trump 1", 1, "0 3 4"), "0 3");
        dueText("rule 3 without the suit", answering("rule 3 trump 1", 1, "4 5 12"), "4 5");
        dueText("rule 3 without the trump", answering("rule 3 trump 1", 1, "8 11 12"), "8 11 12");
        dueText("rule 3 without any trump", answering("rule 3", 1, "4 8 12"), "4 8 12");
        dueText("rule 3, trump led", answering("rule 3 trump 0", 1, "4 8 12"), "4 8 12");
        dueText("rule 3 with a trump that never glowed", answering("rule 3 trump 1 glow 0", 1, "4 8 12"), "4");
        FadingTrumps y = Check.loaded("blue 4 3 2 rule 2 trump 1 glow 3;hand 0 0 8;hand 1 4 9;hand 2 1 3;");
        playAll(y, 0, 4);
        dueText("a trump in the trick is higher than all of the suit", legal(y, 16), "1 3");
        FadingTrumps z = Check.loaded("blue 4 3 2 rule 2 trump 1 glow 1;hand 0 0 8;hand 1 4 9;hand 2 1 3;");
        playAll(z, 0, 4);
        dueText("a trump of the power 2 in the trick", legal(z, 16), "3");
        z.auto(52);
        C.due("legal behind the hand", z.legal(), 0);
        C.due("isLegal behind the hand", Check.flag(z.isLegal(3)), 0);
    }

    // ---- 14 to 17

    private static void presentTrick() {
        FadingTrumps x = Check.loaded(THREE);
        C.due("led()", x.led(), NONE);
        C.due("winning()", x.winning(), NONE);
        C.due("power of a leading card", x.power(15), 4);
        C.due("power of a leading trump", x.power(7), 7);
        C.due("wouldLead", Check.flag(x.wouldLead(0)), 1);
        x.play(1);
        C.due("led()", x.led(), 0);
        C.due("winning()", x.winning(), 1);
        C.due("power of the suit led", x.power(3), 4);
        C.due("power of another suit", x.power(15), 0);
        C.due("power of a trump", x.power(4), 4);
        C.due("wouldLead of less", Check.flag(x.wouldLead(0)), 0);
        C.due("wouldLead of as much", Check.flag(x.wouldLead(1)), 0);
        C.due("wouldLead of more", Check.flag(x.wouldLead(2)), 1);
        C.due("wouldLead of another suit", Check.flag(x.wouldLead(15)), 0);
        C.due("wouldLead of a trump", Check.flag(x.wouldLead(4)), 1);
        x.play(4);
        C.due("winning()", x.winning(), 2);
        C.due("wouldLead of as much power", Check.flag(x.wouldLead(3)), 0);
        x.play(0);
        C.due("led() behind a trick", x.led(), NONE);
        C.due("winning() behind a trick", x.winning(), NONE);
        C.due("power behind a trick", x.power(7), 5);
        playAll(x, 9, 5, 8);
        C.due("power behind the hand", x.power(7), 4);
        C.due("power of another suit behind the hand", x.power(14), 3);
        C.due("wouldLead behind the hand", Check.flag(x.wouldLead(0)), 1);
        noSuchOutside("power", 16, x::power);
        noSuchOutside("wouldLead", 16, w -> Check.flag(x.wouldLead(w)));
        FadingTrumps y = Check.loaded("blue 4 2 1 rule 0 trump 1 glow 2;hand 0 2;hand 1 4;");
        playAll(y, 2, 4);
        C.due("of as much power the first one wins", y.size(10), 0);
        FadingTrumps z = Check.loaded("blue 4 2 1 trump 1 glow 0;hand 0 12;hand 1 5;");
        playAll(z, 12, 5);
        C.due("a trump without a glow still has its rank", z.size(10), 1);
    }

    // ---- 18, 19, 20

    private static void playedCards() {
        FadingTrumps x = Check.loaded(THREE);
        C.noSuch("played(0, 0)", () -> x.played(0, 0));
        C.noSuch("trick(0, 0)", () -> x.trick(0, 0));
        playAll(x, 1, 4, 0, 9);
        int[][] due = {{1, 1, 0}, {4, 2, 0}, {0, 0, 0}, {9, 2, 1}};
        for (int i = 0; i < due.length; i++) {
            for (int what = 0; what < 3; what++) {
                C.due("played(" + i + ", " + what + ")", x.played(i, what), due[i][what]);
            }
        }
        noSuchOutside("played", 4, w -> x.played(w, 0));
        noSuchOutside("played what", 3, w -> x.played(0, w));
        dueTrick(x, 0, 1, 2, 4, 0, 1, 3);
        noSuchOutside("trick", 1, w -> x.trick(w, 0));
        noSuchOutside("trick what", 6, w -> x.trick(0, w));
        C.due("tricks(2)", x.tricks(2), 1);
        playAll(x, 5, 8);
        dueTrick(x, 0, 1, 2, 4, 0, 1, 3);
        dueTrick(x, 1, 2, 0, 5, 2, 1, 1);
        C.due("tricks(0)", x.tricks(0), 1);
        C.due("tricks(1)", x.tricks(1), 0);
        noSuchOutside("tricks", 3, x::tricks);
        x.deal(1);
        C.noSuch("played of a new hand", () -> x.played(0, 0));
        C.noSuch("trick of a new hand", () -> x.trick(0, 0));
        C.due("tricks of a new hand", x.tricks(0), 0);
        FadingTrumps y = Check.loaded("blue 4 2 1;");
        y.auto(2);
        C.due("no trump in the trick", y.trick(0, 4), NONE);
        C.due("no glow in the trick", y.trick(0, 5), 0);
    }

    private static void dueTrick(FadingTrumps x, int trick, int... due) {
        for (int what = 0; what < 6; what++) {
            C.due("trick(" + trick + ", " + what + ")", x.trick(trick, what), due[what]);
        }
    }

    // ---- 21 to 24

    private static void told() {
        FadingTrumps x = Check.loaded(THREE + "tell 0 1;tell 2 2;");
        C.due("told(0)", x.told(0), 1);
        C.due("told(1)", x.told(1), NONE);
        C.due("told(2)", x.told(2), 2);
        C.due("result(0) with 0 of 1", x.result(0), -1);
        C.due("result(1) with 0", x.result(1), 0);
        C.due("result(2) with 0 of 2", x.result(2), -2);
        playAll(x, 1, 4, 0);
        C.due("result(2) with 1 of 2", x.result(2), -1);
        C.due("points in the hand", x.points(2), 0);
        playAll(x, 9, 5, 8);
        C.due("result(0) with 1 of 1", x.result(0), 11);
        C.due("told behind the hand", x.told(0), 1);
        C.due("points(0)", x.points(0), 11);
        C.due("points(1)", x.points(1), 0);
        C.due("points(2)", x.points(2), -1);
        noSuchOutside("told", 3, x::told);
        noSuchOutside("result", 3, x::result);
        noSuchOutside("points", 3, x::points);
        FadingTrumps y = Check.loaded(THREE + "tell 1 0;tell 2 0;");
        playAll(y, 1, 4, 0);
        C.due("result(2) with 1 of 0", y.result(2), -1);
        C.due("result(1) with 0 of 0", y.result(1), 10);
        C.due("result(0) without", y.result(0), 0);
    }

    private static void pointsAndRanking() {
        FadingTrumps x = Check.loaded(THREE + "tell 1 0;");
        for (int place = 0; place < 3; place++) {
            C.due("ranking(" + place + ") of the same points", x.ranking(place), place);
        }
        playAll(x, 1, 4, 0, 9, 5, 8);
        C.due("ranking(0)", x.ranking(0), 1);
        C.due("ranking(1)", x.ranking(1), 0);
        C.due("ranking(2)", x.ranking(2), 2);
        noSuchOutside("ranking", 3, x::ranking);
        x.deal(3);
        C.due("points stay", x.points(1), 10);
        C.due("told is anew", x.told(1), NONE);
        x.auto(52);
        int sum = x.points(0) + x.points(1) + x.points(2);
        C.due("two more tricks are two more points", sum, 14);
        C.due("two hands are over", x.size(13), 2);
    }

    // ---- 25, 26, 27

    private static void known() {
        FadingTrumps x = Check.loaded(THREE);
        C.due("could of one's own", Check.flag(x.could(0, 0)), 1);
        C.due("could of a card aside", Check.flag(x.could(0, 15)), 1);
        playAll(x, 1, 4);
        C.due("lacks(2, 0)", Check.flag(x.lacks(2, 0)), 1);
        C.due("lacks(2, 1)", Check.flag(x.lacks(2, 1)), 0);
        C.due("lacks(0, 0)", Check.flag(x.lacks(0, 0)), 0);
        C.due("could(2, 3)", Check.flag(x.could(2, 3)), 0);
        C.due("could(2, 12)", Check.flag(x.could(2, 12)), 1);
        C.due("could(0, 3)", Check.flag(x.could(0, 3)), 1);
        C.due("could of a played card", Check.flag(x.could(0, 4)), 0);
        C.due("unseen(0)", x.unseen(0), 12);
        C.due("unseen(2)", x.unseen(2), 13);
        playAll(x, 0, 9, 5, 8);
        C.due("lacks behind the hand", Check.flag(x.lacks(0, 2)), 1);
        C.due("could without cards", Check.flag(x.could(1, 15)), 0);
        C.due("unseen behind the hand", x.unseen(1), 10);
        x.deal(0);
        C.due("lacks in a new hand", Check.flag(x.lacks(2, 0)), 0);
        C.due("could in a new hand", Check.flag(x.could(2, 4)), 1);
        C.due("unseen in a new hand", x.unseen(1), 14);
        noSuchOutside("lacks", 3, w -> Check.flag(x.lacks(w, 0)));
        noSuchOutside("lacks suit", 4, w -> Check.flag(x.lacks(0, w)));
        noSuchOutside("could", 3, w -> Check.flag(x.could(w, 0)));
        noSuchOutside("could card", 16, w -> Check.flag(x.could(0, w)));
        noSuchOutside("unseen", 3, x::unseen);
        FadingTrumps y = Check.loaded("blue 4 2 2 rule 0;hand 0 0 1;hand 1 4 5;");
        playAll(y, 0, 4);
        C.due("lacks with the rule 0", Check.flag(y.lacks(1, 0)), 0);
        y.setRule(3);
        playAll(y, 1);
        C.due("the leader shows nothing", Check.flag(y.lacks(0, 0)), 0);
        playAll(y, 5);
        C.due("lacks with another rule", Check.flag(y.lacks(1, 0)), 1);
    }

    // ---- 28, 29

    private static void masters() {
        FadingTrumps x = Check.loaded(THREE);
        int[] due = {0, 0, 0, 0, 0, 1, 0, 0, 0, 0};
        for (int card = 0; card < due.length; card++) {
            C.due("isMaster(" + card + ")", Check.flag(x.isMaster(card)), due[card]);
        }
        C.due("masters(0)", x.masters(0), 1);
        C.due("masters(1)", x.masters(1), 0);
        C.due("a card aside", Check.flag(x.isMaster(7)), 0);
        x.setTrump(NONE);
        C.due("without a trump: sky 1", Check.flag(x.isMaster(0)), 0);
        C.due("without a trump: sky 2", Check.flag(x.isMaster(1)), 1);
        C.due("without a trump: sea 1", Check.flag(x.isMaster(4)), 0);
        C.due("without a trump: masters(2)", x.masters(2), 1);
        noSuchOutside("isMaster", 16, w -> Check.flag(x.isMaster(w)));
        noSuchOutside("masters", 3, x::masters);
        FadingTrumps y = Check.loaded("blue 4 2 2 trump 0 glow 2;hand 0 3 15;hand 1 0 14;");
        C.due("another hand's trump has less power", Check.flag(y.isMaster(15)), 1);
        C.due("of one's own hand none counts", y.masters(0), 2);
        FadingTrumps z = Check.loaded("blue 4 2 2 trump 0 glow 2;hand 0 13 15;hand 1 1 14;");
        C.due("another hand's trump has as much power", Check.flag(z.isMaster(15)), 0);
        C.due("a card of the same suit has more power", Check.flag(z.isMaster(13)), 0);
        playAll(z, 13, 14);
        C.due("behind a trick without a glow", Check.flag(z.isMaster(15)), 1);
        FadingTrumps w = Check.loaded("blue 4 2 2 rule 0 trump 0 glow 9;hand 0 12 15;hand 1 8 14;");
        w.play(12);
        C.due("in a trick that it led, not the present one", Check.flag(w.isMaster(8)), 1);
    }

    // ---- 30

    private static void darkIn() {
        int[][] due = {{3, 2, 2}, {4, 2, 2}, {30, 9, 4}, {30, 1, 30}, {1, 9, 1}, {0, 0, 0}, {0, 3, 0}, {5, 0, NONE}};
        for (int[] d : due) {
            FadingTrumps x = Check.loaded("blue 4 2 3 trump 1 glow " + d[0] + " fade " + d[1] + ";");
            C.due("darkIn() of the glow " + d[0] + " and the fade " + d[1], x.darkIn(), d[2]);
        }
        FadingTrumps x = Check.loaded("blue 4 2 3;");
        C.due("darkIn() without a trump", x.darkIn(), 0);
        x.setTrump(0);
        C.due("darkIn() of a trump", x.darkIn(), 5);
        x.setFade(3);
        C.due("darkIn() of another fade", x.darkIn(), 4);
        x.auto(1);
        C.due("darkIn() in a trick", x.darkIn(), 4);
        x.auto(1);
        C.due("darkIn() behind a trick", x.darkIn(), 3);
    }

    // ---- 31, 32

    private static void dueSure(String text, int sure, int card) {
        FadingTrumps x = Check.loaded(text);
        C.due("sureCard() of " + text, x.sureCard(), card);
        C.due("sure() of " + text, x.sure(), sure);
    }

    private static void sure() {
        dueSure("blue 4 2 1;hand 0 3;hand 1 2;", 1, 3);
        dueSure("blue 4 2 1;hand 0 2;hand 1 3;", 0, 2);
        dueSure("blue 4 2 2;hand 0 0 7;hand 1 3 6;", 1, 0);
        dueSure("blue 4 2 2;hand 0 1 7;hand 1 2 3;", 1, 7);
        dueSure("blue 4 2 2 trump 0 glow 3 fade 3;hand 0 4 8;hand 1 0 5;", 0, 4);
        dueSure("blue 4 2 3;hand 0 1 3 4;hand 1 2 5 6;", 2, 3);
        dueSure("blue 4 3 1;hand 0 1;hand 1 0;hand 2 2;", 0, 1);
        dueSure("blue 4 3 4 lead 2;hand 2 3 7 11 15;hand 0 0 1 2 4;hand 1 5 6 8 9;", 4, 3);
        dueSure("blue 4 4 3 lead 3;hand 3 0 4 8;hand 0 1 5 9;hand 1 2 6 10;hand 2 3 7 11;", 0, 0);
        FadingTrumps x = Check.loaded("blue 4 2 7;");
        C.due("sure() with 14 cards", x.sure(), NONE);
        C.due("sureCard() with 14 cards", x.sureCard(), NONE);
        x.auto(1);
        C.due("sure() with 13 cards", x.sure(), NONE);
        C.due("sureCard() with 13 cards", x.sureCard(), NONE);
        x.auto(1);
        C.due("sure() with 12 cards", Check.flag(x.sure() >= 0 && x.sure() <= 6), 1);
        C.due("sureCard() with 12 cards", Check.flag(x.isLegal(x.sureCard())), 1);
        x.auto(12);
        C.due("sure() behind the hand", x.sure(), NONE);
        C.due("sureCard() behind the hand", x.sureCard(), NONE);
    }

    private static void glowAndSure() {
        // Behind sky 4 sky would be trump, and player 1 would take sea 4 with it; behind sea 4 they can't.
        dueSure("blue 4 2 2 trump 2 glow 3 fade 3 revive;hand 0 3 7;hand 1 1 2;", 2, 7);
        dueSure("blue 4 2 2 trump 2 glow 3 fade 3;hand 0 3 7;hand 1 1 2;", 2, 3);
        FadingTrumps x = Check.loaded("blue 4 2 2;hand 0 1 4;hand 1 0 7;");
        x.play(1);
        C.due("sure() of who follows", x.sure(), 1);
        x = Check.loaded("blue 4 2 2;hand 0 1 4;hand 1 2 7;");
        x.play(1);
        C.due("sure() with the present trick", x.sure(), 2);
        C.due("sureCard() in a trick", x.sureCard(), 2);
        FadingTrumps y = Check.loaded("blue 4 2 2 trump 0 glow 5 fade 5;hand 0 0 7;hand 1 4 9;");
        C.due("a trump that fades", y.sure(), 2);
        C.due("its card", y.sureCard(), 0);
        playAll(y, 0, 4);
        C.due("sure() of the last trick", y.sure(), 1);
        C.due("sure() changes nothing", y.size(12), 2);
    }

    // ---- 33, 34

    private static void means() {
        FadingTrumps x = Check.loaded("blue 9 2 3;hand 0 0 1 5;hand 1 6 7 8;");
        C.due("meanRank(0)", Double.doubleToLongBits(x.meanRank(0)), Double.doubleToLongBits(9.0 / 3.0));
        x.play(0);
        C.due("meanRank(0)", Double.doubleToLongBits(x.meanRank(0)), Double.doubleToLongBits(4.0));
        C.due("share(0)", Float.floatToIntBits(x.share(0)), Float.floatToIntBits(0.0f));
        x.auto(3);
        C.due("share(1)", Float.floatToIntBits(x.share(1)), Float.floatToIntBits(1.0f));
        x.auto(2);
        C.due("meanRank(0) without cards", Double.doubleToLongBits(x.meanRank(0)), Double.doubleToLongBits(0.0));
        noSuchOutside("meanRank", 2, w -> (long) x.meanRank(w));
        noSuchOutside("share", 2, w -> (long) x.share(w));
        FadingTrumps y = Check.loaded("blue 9 2 3;hand 0 0 1 4;hand 1 9 10 11;");
        C.due("8 / 3 as doubles", Double.doubleToLongBits(y.meanRank(0)), Double.doubleToLongBits(8.0 / 3.0));
        FadingTrumps z = Check.loaded("blue 4 2 3;hand 0 0 1 7;hand 1 2 3 6;");
        playAll(z, 0, 2, 3, 1, 6, 7);
        C.due("1 / 3 as floats", Float.floatToIntBits(z.share(0)), Float.floatToIntBits(1.0f / 3.0f));
        C.due("2 / 3 as floats", Float.floatToIntBits(z.share(1)), Float.floatToIntBits(2.0f / 3.0f));
    }

    // ---- 35

    private static void play() {
        FadingTrumps x = Check.loaded(THREE);
        C.due("play of another's card", x.play(0), -3);
        C.due("play of a card aside", x.play(15), -3);
        C.due("undoCount", x.undoCount(), 0);
        C.due("play(1)", x.play(1), 3 + 2);
        C.due("play(4)", x.play(4), 3 + 0);
        C.due("play of what one may not", x.play(5), -4);
        C.due("play of a card that was played", x.play(1), -3);
        C.due("play(0)", x.play(0), 2);
        C.due("play(9)", x.play(9), 3 + 0);
        C.due("play(5)", x.play(5), 3 + 1);
        C.due("play(8)", x.play(8), 0);
        C.due("undoCount", x.undoCount(), 6);
        C.due("play behind the hand", x.play(8), -2);
        C.due("undoCount", x.undoCount(), 6);
        noSuchOutside("play", 16, x::play);
    }

    private static void dueTrump(String what, FadingTrumps x, int trump, int glow) {
        C.due("the trump " + what, x.size(4), trump);
        C.due("the glow " + what, x.size(5), glow);
    }

    private static void fading() {
        FadingTrumps x = Check.loaded("blue 4 2 4 trump 3 glow 5 fade 2;");
        x.auto(1);
        dueTrump("in the first trick", x, 3, 5);
        x.auto(1);
        dueTrump("behind a trick", x, 3, 3);
        x.auto(2);
        dueTrump("behind two tricks", x, 3, 1);
        x.auto(2);
        dueTrump("behind three tricks", x, NONE, 0);
        x.auto(2);
        dueTrump("behind four tricks", x, NONE, 0);
        x.deal(1);
        dueTrump("in a new hand", x, 3, 5);
        FadingTrumps y = Check.loaded("blue 4 2 2 trump 3 glow 2 fade 2 revive;hand 0 0 4;hand 1 1 5;");
        playAll(y, 0, 1);
        dueTrump("that passed to the suit that won", y, 0, 2);
        playAll(y, 5, 4);
        dueTrump("that passed behind the last trick", y, 1, 2);
        y.deal(1);
        dueTrump("in a new hand", y, 3, 2);
        FadingTrumps z = Check.loaded("blue 4 2 2 rule 0 trump 3 glow 2 fade 9 revive;hand 0 0 4;hand 1 12 5;");
        playAll(z, 0, 12);
        dueTrump("that stays with the trump that won", z, 3, 2);
        FadingTrumps w = Check.loaded("blue 4 2 3 trump 2 glow 0 revive;");
        w.auto(4);
        dueTrump("that never glowed", w, 2, 0);
        FadingTrumps v = Check.loaded("blue 4 2 3 trump 2 fade 0;");
        v.auto(4);
        dueTrump("that does not fade", v, 2, 10);
        v.setFade(9);
        v.auto(1);
        v.setFade(4);
        v.auto(1);
        dueTrump("with another fade", v, 2, 6);
        FadingTrumps u = new FadingTrumps();
        u.setRevive(true);
        u.auto(2);
        dueTrump("of none", u, NONE, 0);
    }

    // ---- 36

    private static void dueAuto(String text, int count, int... cards) {
        FadingTrumps x = Check.loaded(text);
        C.due("auto(" + count + ") of " + text, x.auto(count), cards.length);
        for (int i = 0; i < cards.length; i++) {
            int index = i;
            C.due("played(" + i + ") of " + text, cards[i], () -> x.played(index, 0));
        }
        C.due("auto is one operation", x.undo(), 0);
        C.due("undone as one", x.size(12), 0);
    }

    private static void auto() {
        dueAuto("blue 4 2 2 trump 0 glow 3;hand 0 0 5;hand 1 12 15;", 1, 0);
        dueAuto("blue 4 2 2;hand 0 3 7;hand 1 12 15;", 1, 3);
        dueAuto("blue 4 2 3;hand 0 0 2 7;hand 1 12 13 15;", 1, 7);
        dueAuto("blue 4 2 3;hand 0 1;hand 1 0 2 3;", 1, 7);
        dueAuto("blue 4 2 1 rule 0;hand 0 1;hand 1 4;", 2, 1, 4);
        dueAuto("blue 4 2 3 lead 1;hand 1 0 4 5;hand 0 1 2 3;", 2, 5, 1);
        dueAuto("blue 4 2 2 rule 0 trump 0 glow 3;hand 0 12 13;hand 1 0 15;", 2, 13, 0);
        dueAuto("blue 4 2 3 rule 0 trump 0 glow 3;hand 0 12 13 8;hand 1 0 15 14;", 2, 13, 14);
        dueAuto("blue 4 2 3 rule 1;hand 0 3 0 1;hand 1 6 9 13;", 2, 3, 9);
        dueAuto("blue 4 2 3 rule 1;hand 0 3 2 1;hand 1 7 8 12;", 2, 3, 8);
        dueAuto(THREE, 52, 1, 4, 0, 9, 5, 8);
        FadingTrumps x = Check.loaded(THREE);
        illegalOutside("auto", 1, 52, x::auto);
        C.due("auto(5)", x.auto(5), 5);
        C.due("auto(52)", x.auto(52), 1);
        C.due("auto behind the hand", x.auto(1), -2);
        C.due("undoCount", x.undoCount(), 2);
        illegalOutside("auto behind the hand", 1, 52, x::auto);
    }

    // ---- 37

    private static void tell() {
        FadingTrumps x = Check.loaded(THREE);
        C.due("tell(0, 2)", x.tell(0, 2), 0);
        C.due("tell(0, 0)", x.tell(0, 0), 3);
        C.due("tell(0, 1)", x.tell(0, 1), 1);
        C.due("told(0)", x.told(0), 1);
        C.due("told(1)", x.told(1), NONE);
        noSuchOutside("tell", 3, w -> x.tell(w, 0));
        illegalOutside("tell", 0, 2, w -> x.tell(0, w));
        C.noSuch("the player is checked first", () -> x.tell(3, 9));
        x.play(1);
        C.due("tell behind a card", x.tell(0, 1), -2);
        C.illegal("the exceptions are checked first", () -> x.tell(0, 3));
        x.auto(52);
        C.due("tell behind the hand", x.tell(0, 1), -2);
        x.deal(0);
        C.due("tell in a new hand", x.tell(0, 1), 0);
    }

    // ---- 38

    private static void deal() {
        FadingTrumps x = Check.loaded("blue 4 3 2 trump 2 lead 1;tell 0 0;");
        C.due("deal ahead of the end", x.deal(7), -2);
        illegalOutside("deal", 0, 99999, x::deal);
        x.auto(5);
        C.due("deal ahead of the last card", x.deal(7), -2);
        x.auto(1);
        C.due("deal(7)", x.deal(7), 2);
        dueText("the hands", Check.format(x, 0) + "/" + Check.format(x, 1) + "/" + Check.format(x, 2),
            "e4 i2/s1 a2/e1 i4");
        C.due("whose turn it is", x.size(9), 2);
        C.due("who leads", x.size(10), 2);
        C.due("complete tricks", x.size(11), 0);
        C.due("cards played", x.size(12), 0);
        C.due("told", x.told(0), NONE);
        dueTrump("of a new hand", x, 2, 10);
        x.setTrump(3);
        x.auto(52);
        C.due("deal(99999)", x.deal(99999), 0);
        dueTrump("of the latest setTrump", x, 3, 10);
        x.auto(52);
        C.due("deal(0)", x.deal(0), 1);
        C.due("hands that are over", x.size(13), 3);
        FadingTrumps y = Check.loaded("blue 4 2 3;");
        y.auto(52);
        y.deal(99999);
        dueText("seed 99999", Check.format(y, 0) + "/" + Check.format(y, 1), "s4 i3 a3/e1 e3 a1");
    }

    // ---- 39 to 42

    private static void setTrump() {
        FadingTrumps x = Check.loaded("blue 4 2 3 trump 1 glow 7;");
        C.due("setTrump(3)", x.setTrump(3), 2);
        dueTrump("that was set", x, 3, 7);
        C.due("setTrump(NONE)", x.setTrump(NONE), 4);
        dueTrump("of none", x, NONE, 0);
        C.due("setTrump(0)", x.setTrump(0), 0);
        dueTrump("that was set", x, 0, 7);
        illegalOutside("setTrump", -1, 3, x::setTrump);
        x.auto(1);
        C.due("setTrump behind a card", x.setTrump(1), -2);
        dueTrump("stays", x, 0, 7);
        x.auto(52);
        C.due("setTrump behind the hand", x.setTrump(1), -2);
        x.deal(0);
        C.due("setTrump in a new hand", x.setTrump(0), 1);
    }

    private static void settings() {
        FadingTrumps x = Check.loaded("blue 4 2 3;");
        C.due("setRule(3)", x.setRule(3), 1);
        C.due("setRule(0)", x.setRule(0), 3);
        C.due("size(3)", x.size(3), 0);
        illegalOutside("setRule", 0, 3, x::setRule);
        x.auto(1);
        C.due("setRule in a trick", x.setRule(1), -2);
        C.illegal("setRule(4) in a trick", () -> x.setRule(4));
        x.auto(1);
        C.due("setRule behind a trick", x.setRule(2), 0);
        C.due("setFade(9)", x.setFade(9), 2);
        C.due("setFade(0)", x.setFade(0), 9);
        C.due("size(7)", x.size(7), 0);
        illegalOutside("setFade", 0, 9, x::setFade);
        C.due("setRevive(true)", x.setRevive(true), 0);
        C.due("setRevive(true)", x.setRevive(true), 1);
        C.due("size(8)", x.size(8), 1);
        C.due("setRevive(false)", x.setRevive(false), 1);
        C.due("size(8)", x.size(8), 0);
        x.auto(52);
        C.due("setRule behind the hand", x.setRule(1), 2);
        x.deal(0);
        C.due("the rule stays for a new hand", x.size(3), 1);
        C.due("the fade stays for a new hand", x.size(7), 0);
    }

    // ---- 43, 44

    private static void format() {
        FadingTrumps x = Check.loaded("blue 13 2 13;hand 0 9 10 11 12 22 23 24 25 35 36 37 38 51;");
        C.due("formattedByte ahead of format", x.formattedByte(0), NONE);
        C.due("format of the longest hand", x.format(0), 51);
        dueText("the longest hand", Check.shownText(x, 51), "s10 s11 s12 s13 e10 e11 e12 e13 i10 i11 i12 i13 a13");
        C.due("formattedByte(51)", x.formattedByte(51), NONE);
        C.due("formattedByte(-1)", x.formattedByte(-1), NONE);
        C.due("formattedByte(MAX)", x.formattedByte(MAX), NONE);
        C.due("formattedByte(MIN)", x.formattedByte(MIN), NONE);
        noSuchOutside("format", 2, x::format);
        C.due("formattedByte behind an exception", x.formattedByte(50), '3');
        x.auto(52);
        C.due("formattedByte as it was then", x.formattedByte(50), '3');
        C.due("format without cards", x.format(0), 1);
        C.due("format without cards", x.formattedByte(0), '-');
        C.due("formattedByte(1)", x.formattedByte(1), NONE);
        x.undo();
        C.due("formattedByte behind undo", x.formattedByte(0), '-');
        FadingTrumps y = Check.loaded("blue 4 2 1;hand 1 12;");
        C.due("format of one card", y.format(1), 2);
        dueText("one card", Check.shownText(y, 2), "a1");
        y.saveSnapshot();
        y.auto(2);
        y.format(0);
        y.restoreSnapshot();
        C.due("formattedByte behind restoreSnapshot", y.formattedByte(0), '-');
    }

    // ---- 45, 46

    private static void undo() {
        FadingTrumps x = Check.loaded(THREE + "tell 1 1;");
        String before = everything(x);
        x.tell(0, 1);
        x.setTrump(2);
        x.setRule(0);
        x.setFade(5);
        x.setRevive(true);
        x.play(1);
        x.auto(52);
        x.deal(4);
        C.due("undoCount", x.undoCount(), 8);
        for (int left = 7; left >= 0; left--) {
            C.due("undo", x.undo(), left);
        }
        dueText("all is undone", everything(x), before);
        C.due("undo of nothing", x.undo(), NONE);
        C.due("undoCount", x.undoCount(), 0);
        FadingTrumps y = Check.loaded("blue 4 2 3;");
        for (int i = 0; i < 14; i++) {
            y.setFade(i % 10);
        }
        C.due("ten can be undone", y.undoCount(), 10);
        for (int left = 9; left >= 4; left--) {
            C.due("undo", y.undo(), left);
        }
        C.due("the fade behind six undone", y.size(7), 7);
        for (int i = 0; i < 7; i++) {
            y.setRule(i % 4);
        }
        C.due("ten again", y.undoCount(), 10);
        for (int left = 9; left >= 0; left--) {
            C.due("undo", y.undo(), left);
        }
        C.due("no more", y.undo(), NONE);
        C.due("the fade behind all undone", y.size(7), 6 - 2);
        notRecorded();
    }

    private static void notRecorded() {
        FadingTrumps x = Check.loaded("blue 4 2 3;");
        x.setRule(1);
        x.setFade(2);
        x.setRevive(false);
        x.setTrump(NONE);
        C.due("what changes nothing is recorded", x.undoCount(), 4);
        C.due("deal ahead of the end", x.deal(1), -2);
        C.due("a wrong card", x.play(x.inHand(1, 0)), -3);
        C.illegal("a wrong rule", () -> x.setRule(9));
        C.noSuch("a wrong player", () -> x.tell(2, 0));
        C.due("what fails is not recorded", x.undoCount(), 4);
        Check.query(x, "many card>3");
        x.format(0);
        x.saveSnapshot();
        x.sure();
        C.due("what is no operation is not recorded", x.undoCount(), 4);
    }

    private static String everything(FadingTrumps x) {
        StringBuilder b = new StringBuilder(sizesOf(x));
        for (int p = 0; p < x.size(1); p++) {
            b.append('/').append(Check.format(x, p)).append(' ').append(x.told(p)).append(' ').append(x.points(p));
            b.append(' ').append(x.tricks(p));
            for (int suit = 0; suit < 4; suit++) {
                b.append(x.lacks(p, suit) ? " lacks" : " -");
            }
        }
        for (int i = 0; i < x.size(12); i++) {
            b.append(' ').append(x.played(i, 0)).append(' ').append(x.played(i, 1));
        }
        for (int i = 0; i < x.size(11); i++) {
            for (int what = 0; what < 6; what++) {
                b.append(' ').append(x.trick(i, what));
            }
        }
        return b.append(' ').append(x.led()).append(' ').append(x.winning()).toString();
    }

    // ---- 47, 48

    private static void snapshots() {
        FadingTrumps x = Check.loaded(THREE);
        C.due("no snapshot", Check.flag(x.restoreSnapshot()), 0);
        playAll(x, 1, 4);
        C.due("nothing changes without a snapshot", x.undoCount(), 2);
        String before = everything(x);
        x.saveSnapshot();
        C.due("saving keeps the history", x.undoCount(), 2);
        x.auto(52);
        x.deal(3);
        x.undo();
        C.due("restoreSnapshot", Check.flag(x.restoreSnapshot()), 1);
        dueText("all is restored", everything(x), before);
        C.due("the history is cleared", x.undoCount(), 0);
        C.due("nothing to undo", x.undo(), NONE);
        x.play(0);
        String later = everything(x);
        C.due("the snapshot is kept", Check.flag(x.restoreSnapshot()), 1);
        dueText("all is restored again", everything(x), before);
        x.play(0);
        x.saveSnapshot();
        x.auto(1);
        x.undo();
        x.undo();
        C.due("the later snapshot", Check.flag(x.restoreSnapshot()), 1);
        dueText("the later one replaces the earlier one", everything(x), later);
        x.feed(0, 0, 0, 0, 0);
        x.restoreSnapshot();
        C.due("the buffer stays", x.feed(0, 0, 0, 0, 0), 40);
    }

    // ---- 49

    private static void dueQuery(FadingTrumps x, String text, int due) {
        C.due("query of '" + text + "'", Check.query(x, text), due);
        C.due("position behind '" + text + "'", x.errorPosition(), NONE);
    }

    private static void queries() {
        FadingTrumps x = Check.loaded(THREE);
        x.play(1);
        dueQuery(x, "many card<5", 5);
        dueQuery(x, "many card > 5", 10);
        dueQuery(x, "first card=5", 5);
        dueQuery(x, "first card=16", NONE);
        dueQuery(x, "many card=16", 0);
        dueQuery(x, "many suit=3", 4);
        dueQuery(x, "first rank=4 and not suit<2", 11);
        dueQuery(x, "many holder=9", 11);
        dueQuery(x, "first holder=2", 4);
        dueQuery(x, "many played=1", 1);
        dueQuery(x, "first played=1", 1);
        dueQuery(x, "many power=0", 8);
        dueQuery(x, "first power>4", 5);
        dueQuery(x, "many legal=1", 2);
        dueQuery(x, "first legal=1", 4);
        dueQuery(x, "many trump=1", 4);
        dueQuery(x, "first 0=trump", 0);
        dueQuery(x, "many 09999>00001", 16);
        dueQuery(x, "many\ncard=rank", 0);
        dueQuery(x, "many card<rank", 4);
        dueQuery(x, "many card=1 or card=2 and card=3", 1);
        dueQuery(x, "many card=1 and card=2 or card=3", 1);
        dueQuery(x, "many(card=1 or card=2)and card=2", 1);
        dueQuery(x, "many card=1 or card=2 or card=3 and 1=1", 3);
        dueQuery(x, "many not card=1 and card<3", 2);
        dueQuery(x, "many not(card=1 and card<3)", 15);
        dueQuery(x, "many not not not not not not card=1", 1);
        dueQuery(x, "many((((((card=1))))))", 1);
        dueQuery(x, "many not(not(not(card<3)))and not(not(card>1))", 13);
        dueQuery(x, "many not not not not not not 1=1 and not not not not not not card<7", 7);
        dueQuery(x, "many card=1 or(card=2 or card=3 and(card=3 or card=4 and(card=5 or 1=1)))", 3);
        x.auto(52);
        dueQuery(x, "many legal=1", 0);
        dueQuery(x, "many played=1", 6);
        dueQuery(x, "many trump=1", 0);
        dueQuery(x, "many power=rank", 16);
        for (int i = 0; i < 60; i++) {
            dueQuery(x, "first card=1 or card=2 and card=3 or not card<" + i % 17, i % 17 == 0 ? 0 : 1);
        }
        StringBuilder b = new StringBuilder("many 1=1");
        while (b.length() < 192) {
            b.append("and 1=1");
        }
        b.setLength(8 + 27 * 7);
        String longest = b + "   ";
        C.due("a query of 200 bytes", longest.length(), 200);
        dueQuery(x, longest, 16);
        Check.feed(x, longest + " ");
        C.illegal("query(201)", () -> x.query(201));
        C.illegal("query(-1)", () -> x.query(-1));
        C.due("nothing changes", x.feed(0, 0, 0, 0, 0), 240);
        C.due("query(0)", x.query(0), FadingTrumps.HIDDEN - 1);
        C.due("position of query(0)", x.errorPosition(), 0);
        Check.feed(x, "many 1=1");
        C.illegal("query(21)", () -> x.query(21));
        C.due("query(8)", x.query(8), 16);
    }

    private static void queryError(String text, int code, int at) {
        FadingTrumps x = Check.loaded("blue 4 2 3;");
        C.due("query of '" + text + "'", Check.query(x, text), FadingTrumps.HIDDEN - code);
        C.due("the position in '" + text + "'", x.errorPosition(), at);
        C.due("the buffer is empty behind '" + text + "'", x.feed(0, 0, 0, 0, 0), 20);
    }

    private static void queryErrors() {
        queryError("all card=1", 1, 0);
        queryError("many", 1, 4);
        queryError("many  ", 1, 6);
        queryError("many first card=1", 1, 5);
        queryError("many card", 1, 9);
        queryError("many card=", 1, 10);
        queryError("many card==1", 1, 10);
        queryError("many card 1", 1, 10);
        queryError("many card=1 1", 1, 12);
        queryError("many card=1;", 1, 11);
        queryError("many card=1)", 1, 11);
        queryError("many (card=1", 1, 12);
        queryError("many card=10000", 2, 10);
        queryError("many 10000=card", 2, 5);
        queryError("many card=99999999999999999999", 2, 10);
        queryError("many cards=1", 1, 5);
        queryError("many card=1 and", 1, 15);
        queryError("many card=1 and or", 1, 16);
        queryError("many or card=1", 1, 5);
        queryError("many card=not", 1, 10);
        queryError("many not", 1, 8);
        queryError("many ()", 1, 6);
        queryError("many card#1", 1, 9);
        queryError("many card=1\u00ff", 1, 11);
        queryError("many not not not not not not not card=1", 3, 29);
        queryError("many (((((((card=1)))))))", 3, 11);
        queryError("many not(not(not(not", 3, 17);
        queryError("many not(not(not not card=10000))", 2, 26);
        queryError("many ((((((card=1 and(", 3, 21);
        queryError("many ((((((card=1 (", 1, 18);
        queryError("many ((((((card=(", 1, 16);
    }
}
