import java.util.ArrayList;
import java.util.List;

/** The section 8 of the terms, and the promises 35 to 48: what changes the game, undoing and snapshots, format. */
final class OperationSentences extends SentenceTests {
    private static final String[] NAMES = {"play", "auto", "tell", "deal", "setTrump", "setRule", "setFade",
        "setRevive"};

    OperationSentences(Doc doc, Check check) {
        super(doc, check);
    }

    @Override
    void all() {
        operations();
        play();
        auto();
        tell();
        deal();
        setTrump();
        setRule();
        setFadeAndRevive();
        format();
        undo();
        snapshots();
    }

    // ---- 8 operations

    private void operations() {
        doc.term(8, "play, auto, tell, deal, setTrump, setRule, setFade and setRevive are operations.",
            this::allOperations);
        doc.term(8, "Every successful call is recorded, even if it changes nothing;", this::recorded);
        doc.term(8, "a call that returns a negative error code or throws an exception changes nothing;", this::refused);
        doc.term(8, "error codes are checked behind the exceptions, in the order in which they are listed.",
            this::order);
        doc.term(8, "The 10 most recent operations can be undone, the most recent one first.", this::tenMostRecent);
        doc.term(8, "Undoing restores everything that the operation changed, but not the buffer, the error position "
            + "and the text of format.", this::restores);
    }

    /** A game in which the operation of this number can be done. */
    private FadingTrumps ready(int operation) {
        FadingTrumps x = game("blue 5 3 4 rule 2 trump 2 glow 5 fade 3 revive lead 1 seed 3;tell 1 1;");
        if (operation == 3) {
            x.auto(12);
        } else if (operation < 2 || operation > 5) {
            x.auto(4);
        }
        return x;
    }

    private int operate(FadingTrumps x, int operation) {
        switch (operation) {
            case 0: return x.play(firstLegal(x));
            case 1: return x.auto(8);
            case 2: return x.tell(2, 4);
            case 3: return x.deal(99);
            case 4: return x.setTrump(0);
            case 5: return x.setRule(3);
            case 6: return x.setFade(9);
            default: return x.setRevive(false);
        }
    }

    private static int firstLegal(FadingTrumps x) {
        for (int card = 0; card < 4 * x.size(0); card++) {
            if (x.isLegal(card)) {
                return card;
            }
        }
        return NONE;
    }

    private void allOperations() {
        for (int operation = 0; operation < NAMES.length; operation++) {
            FadingTrumps x = ready(operation);
            int before = x.undoCount();
            String state = stateOf(x);
            yes(NAMES[operation], operate(x, operation) >= 0);
            no(NAMES[operation] + " changes something", stateOf(x).equals(state));
            due(NAMES[operation] + " is recorded once", x.undoCount(), before + 1);
            due(NAMES[operation] + " is undone", x.undo(), before);
        }
        FadingTrumps x = game("blue 4 2 3;");
        x.saveSnapshot();
        x.format(0);
        x.sure();
        x.sureCard();
        Check.query(x, "many card<3");
        Check.query(x, "many");
        Check.load(x, "blue");
        x.feed(0, 0, 0, 0, 0);
        due("others are none", x.undoCount(), 0);
    }

    private void recorded() {
        FadingTrumps x = game("blue 4 2 3;tell 0 2;");
        String before = stateOf(x);
        Runnable[] same = {() -> x.tell(0, 2), () -> x.setTrump(NONE), () -> x.setRule(1), () -> x.setFade(2),
            () -> x.setRevive(false)};
        for (int i = 0; i < same.length; i++) {
            same[i].run();
            due("an operation that changes nothing", x.undoCount(), i + 1);
            same("nothing changed", stateOf(x), before);
        }
        for (int left = 4; left >= 0; left--) {
            due("undo of what changed nothing", x.undo(), left);
            same("nothing changed", stateOf(x), before);
        }
    }

    /** Each call that is refused, in a state in which it is. */
    private void refused() {
        FadingTrumps x = game(THREE + "tell 0 1;");
        x.setFade(1);
        x.saveSnapshot();
        x.play(1);
        x.format(0);
        refused(x, "play of another one's card", y -> y.play(0), -3);
        refused(x, "deal in the hand", y -> y.deal(1), -2);
        refused(x, "tell behind a card", y -> y.tell(0, 1), -2);
        refused(x, "setTrump behind a card", y -> y.setTrump(0), -2);
        refused(x, "setRule in a trick", y -> y.setRule(0), -2);
        x.play(4);
        refused(x, "play of what they may not", y -> y.play(5), -4);
        throwing(x);
        x.auto(52);
        refused(x, "play behind the hand", y -> y.play(5), -2);
        refused(x, "auto behind the hand", y -> y.auto(1), -2);
        refused(x, "tell behind the hand", y -> y.tell(0, 0), -2);
        refused(x, "setTrump behind the hand", y -> y.setTrump(NONE), -2);
        throwing(x);
    }

    private void refused(FadingTrumps x, String what, Told call, int code) {
        changesNothing(what, x, () -> due(what, call.to(x), code));
    }

    private void throwing(FadingTrumps x) {
        changesNothing("wrong arguments", x, () -> {
            noSuch("play", () -> x.play(16));
            illegal("auto", () -> x.auto(0));
            noSuch("tell", () -> x.tell(3, 0));
            illegal("tell", () -> x.tell(0, 3));
            illegal("deal", () -> x.deal(100000));
            illegal("setTrump", () -> x.setTrump(4));
            illegal("setRule", () -> x.setRule(4));
            illegal("setFade", () -> x.setFade(10));
            noSuch("format", () -> x.format(3));
            illegal("load", () -> x.load(501));
            illegal("query", () -> x.query(201));
        });
    }

    private void order() {
        FadingTrumps x = game(THREE);
        illegal("deal(-1) in the hand", () -> x.deal(-1));
        x.play(1);
        noSuch("tell(3, 0) behind a card", () -> x.tell(3, 0));
        noSuch("tell(3, 9) behind a card", () -> x.tell(3, 9));
        illegal("tell(0, 3) behind a card", () -> x.tell(0, 3));
        illegal("setTrump(4) behind a card", () -> x.setTrump(4));
        illegal("setRule(4) in a trick", () -> x.setRule(4));
        x.play(4);
        due("a card that is not theirs nor of the suit led", x.play(8), -3);
        due("a card that is theirs and not of the suit led", x.play(5), -4);
        x.auto(52);
        noSuch("play(16) behind the hand", () -> x.play(16));
        due("a card that nobody has, behind the hand", x.play(5), -2);
        illegal("auto(0) behind the hand", () -> x.auto(0));
        illegal("auto(53) behind the hand", () -> x.auto(53));
    }

    private void tenMostRecent() {
        FadingTrumps x = game("blue 4 2 3;");
        List<String> states = new ArrayList<>();
        for (int i = 0; i < 25; i++) {
            states.add(stateOf(x));
            x.setFade((i * 3 + 1) % 10);
            due("operations behind " + (i + 1), x.undoCount(), Math.min(10, i + 1));
        }
        for (int i = 24; i >= 15; i--) {
            due("undo", x.undo(), i - 15);
            same("the state ahead of the operation " + i, stateOf(x), states.get(i));
        }
        due("an eleventh one", x.undo(), NONE);
        same("nothing changes", stateOf(x), states.get(15));
        mixed();
    }

    /** Operations and undoing in turn, so that the ten places are used round and round. */
    private void mixed() {
        FadingTrumps x = game("blue 4 2 3;");
        List<Integer> before = new ArrayList<>();
        for (int i = 0; i < 60; i++) {
            before.add(x.size(7));
            if (before.size() > 10) {
                before.remove(0);
            }
            x.setFade((i * 7 + 3) % 10);
            if (i % 3 == 2) {
                due("undo", x.undo(), before.size() - 1);
                due("FADE behind undo", x.size(7), before.remove(before.size() - 1));
            }
            due("operations", x.undoCount(), before.size());
        }
        while (!before.isEmpty()) {
            due("undo", x.undo(), before.size() - 1);
            due("FADE behind undo", x.size(7), before.remove(before.size() - 1));
        }
        due("no more", x.undo(), NONE);
    }

    private void restores() {
        for (int operation = 0; operation < NAMES.length; operation++) {
            FadingTrumps x = ready(operation);
            String before = stateOf(x);
            operate(x, operation);
            x.undo();
            same("undo of " + NAMES[operation], stateOf(x), before);
            operate(x, operation);
            String behind = stateOf(x);
            x.undo();
            operate(x, operation);
            same(NAMES[operation] + " once more", stateOf(x), behind);
        }
        overHands();
        FadingTrumps x = game(THREE);
        Check.feed(x, "many card<5");
        x.setFade(7);
        x.undo();
        due("not the buffer", x.query(11), 5);
        x.setFade(7);
        x.feed(0, 0, 0, 0, 0);
        x.undo();
        due("not the buffer", x.feed(0, 0, 0, 0, 0), 40);
        x.setFade(7);
        x.load(40);
        x.undo();
        due("not the error position", x.errorPosition(), 0);
        x.play(1);
        x.format(1);
        x.undo();
        same("not the text of format", Check.shownText(x, 2), "i1");
        due("not the text of format", x.formattedByte(2), NONE);
    }

    /** Ten operations over two hands, undone one by one, and then done again in the same way. */
    private void overHands() {
        FadingTrumps x = game("blue 5 3 2 rule 0 trump 2 glow 3 fade 3 revive lead 1 seed 3;tell 1 1;");
        List<String> states = new ArrayList<>();
        for (int round = 0; round < 2; round++) {
            for (int i = 0; i < 10; i++) {
                states.add(stateOf(x));
                yes("an operation", overHands(x, i) >= 0);
            }
            String end = stateOf(x);
            for (int i = 9; i >= 0; i--) {
                due("undo", x.undo(), i);
                same("behind undo of the operation " + i, stateOf(x), states.get(10 * round + i));
            }
            same("the beginning", stateOf(x), states.get(0));
            x.saveSnapshot();
            for (int i = 0; i < 10; i++) {
                overHands(x, i);
            }
            same("the same operations again", stateOf(x), end);
            x.restoreSnapshot();
            same("the beginning by the snapshot", stateOf(x), states.get(0));
        }
        betterCardUndone();
    }

    private int overHands(FadingTrumps x, int i) {
        switch (i) {
            case 0: return x.tell(0, 2);
            case 1: return x.setRule(1);
            case 2: return x.auto(4);
            case 3: return x.auto(52);
            case 4: return x.deal(77);
            case 5: return x.tell(2, 1);
            case 6: return x.setTrump(0);
            case 7: return x.play(firstLegal(x));
            case 8: return x.auto(2);
            default: return x.auto(2);
        }
    }

    /** What is best in the trick so far is undone, too. */
    private void betterCardUndone() {
        FadingTrumps x = game("blue 4 3 1 rule 0 trump 3 glow 1 fade 1 revive;hand 0 1;hand 1 2;hand 2 4;");
        plays(x, 1);
        x.saveSnapshot();
        plays(x, 2);
        due("the better card has it", x.winning(), 1);
        x.undo();
        due("undone", x.winning(), 0);
        FadingTrumps y = game("blue 4 2 2 rule 0 trump 3 glow 1 fade 1 revive;hand 0 0 8;hand 1 12 4;");
        plays(y, 0, 12);
        due("the card that won", y.trick(0, 2), 12);
        y.undo();
        plays(y, 4);
        due("the card that won instead", y.trick(0, 2), 0);
        same("the suit that it passed to", lightOf(y), "0 1");
        y.undo();
        y.saveSnapshot();
        plays(y, 12);
        y.restoreSnapshot();
        plays(y, 4);
        due("the card that won behind restoreSnapshot", y.trick(0, 2), 0);
    }

    // ---- 35 play

    private void play() {
        doc.promise(35, "Operation: the player whose turn it is plays a card.", () -> {
            FadingTrumps x = game(THREE);
            plays(x, 1);
            due("the card", x.played(0, 0), 1);
            due("who played it", x.played(0, 1), 1);
            due("it is in no hand", x.holder(1), NONE);
            due("whose turn it is", x.size(9), 2);
            x.undo();
            due("undone", x.size(12), 0);
        });
        doc.promise(35, "Returns the player who has the trick, if it is complete then, otherwise the number of "
            + "players plus the player whose turn it is then;", () -> {
            FadingTrumps x = game(THREE);
            due("the next one", x.play(1), 3 + 2);
            due("behind the last player the first one", x.play(4), 3 + 0);
            due("a complete trick", x.play(0), 2);
            due("the next one", x.play(9), 3 + 0);
            due("the next one", x.play(5), 3 + 1);
            due("the last trick of the hand", x.play(8), 0);
            FadingTrumps y = game("blue 4 2 1 lead 1;hand 1 3;hand 0 2;");
            due("of two players", y.play(3), 2 + 0);
            due("of two players", y.play(2), 1);
            FadingTrumps z = game("blue 4 4 1 lead 3;hand 3 0;hand 0 1;hand 1 2;hand 2 3;");
            due("of four players", z.play(0), 4 + 0);
            due("of four players", z.play(1), 4 + 1);
            due("of four players", z.play(2), 4 + 2);
            due("of four players", z.play(3), 2);
        });
        doc.promise(35, "-2 if the hand is over,", () -> {
            FadingTrumps x = game(THREE);
            x.auto(52);
            for (int card = 0; card < 16; card++) {
                int one = card;
                refused(x, "play(" + one + ") behind the hand", y -> y.play(one), -2);
            }
        });
        doc.promise(35, "-3 if they do not have the card,", () -> {
            FadingTrumps x = game(THREE);
            refused(x, "another one's card", y -> y.play(0), -3);
            refused(x, "a card that lies aside", y -> y.play(15), -3);
            plays(x, 1);
            refused(x, "a card that was played", y -> y.play(1), -3);
            refused(x, "a card of who played", y -> y.play(8), -3);
        });
        doc.promise(35, "-4 if they may not play it.", () -> {
            FadingTrumps x = game(THREE);
            plays(x, 1, 4);
            refused(x, "a trump though they have the suit led", y -> y.play(5), -4);
            FadingTrumps y = game("blue 4 2 3 rule 2;hand 0 1;hand 1 0 2 4;");
            plays(y, 1);
            refused(y, "a lower card though they have a higher one", z -> z.play(0), -4);
            refused(y, "another suit", z -> z.play(4), -4);
            due("the higher one", y.play(2), 1);
            FadingTrumps w = game("blue 4 2 3 rule 3 trump 1;hand 0 1;hand 1 8 12 4;");
            plays(w, 1);
            refused(w, "another suit though they have a trump", z -> z.play(8), -4);
            due("the trump", w.play(4), 1);
        });
        doc.promise(35, "Throws `NoSuchElementException` if there is no such card", () -> {
            for (int wrong : new int[] {-1, 16, 17, 51, 52, MIN, MAX}) {
                FadingTrumps x = game(THREE);
                changesNothing("play(" + wrong + ")", x, () -> noSuch("play(" + wrong + ")", () -> x.play(wrong)));
            }
            noSuch("play(52)", () -> game("blue 13 4 13;").play(52));
        });
    }

    // ---- 36 auto

    private String autoOf(String text, int cards) {
        FadingTrumps x = game(text);
        due("auto(" + cards + ") of " + text, x.auto(cards), Math.min(cards, x.size(1) * x.size(2)));
        StringBuilder b = new StringBuilder();
        for (int i = 0; i < x.size(12); i++) {
            b.append(i > 0 ? " " : "").append(x.played(i, 0));
        }
        due("auto is one operation", x.undoCount(), 1);
        due("undo of auto", x.undo(), 0);
        due("cards behind undo", x.size(12), 0);
        return b.toString();
    }

    private void auto() {
        doc.promise(36, "Operation: cards are played, each by the player whose turn it is, until so many were played "
            + "or the hand is over:", () -> {
            same("all", autoOf(THREE, 6), "1 4 0 9 5 8");
            same("more than there are", autoOf(THREE, 7), "1 4 0 9 5 8");
            same("the most", autoOf(THREE, 52), "1 4 0 9 5 8");
            same("one", autoOf(THREE, 1), "1");
            FadingTrumps x = game(THREE);
            x.auto(52);
            due("not into the next hand", x.size(13), 1);
            FadingTrumps y = game("blue 13 4 13;");
            due("all of the most", y.auto(52), 52);
        });
        doc.promise(36, "who leads plays the card with the greatest power, of several the smallest;", () -> {
            same("the highest", autoOf("blue 4 2 3;hand 0 0 2 5;hand 1 12 13 15;", 1), "2");
            same("of several the smallest", autoOf("blue 4 2 3;hand 0 15 7 3;", 1), "3");
            same("a trump", autoOf("blue 4 2 2 trump 3 glow 4;hand 0 3 12;", 1), "12");
            same("as much power as a smaller card", autoOf("blue 4 2 2 trump 3 glow 3;hand 0 3 12;", 1), "3");
            same("as much power as a larger card", autoOf("blue 4 2 2 trump 0 glow 3;hand 0 0 15;", 1), "0");
            same("the lowest, if it is the only one", autoOf("blue 4 2 1;hand 0 0;", 1), "0");
        });
        doc.promise(36, "others, of the cards that they may play and that would be the best one of the trick, the one "
            + "with the least power, of several the smallest;", () -> {
            same("the least that is enough", autoOf("blue 4 2 4;hand 0 1 4 5 8;hand 1 0 2 3 7;", 2), "1 2");
            same("of what they may play", autoOf("blue 4 2 4 rule 1 trump 1;hand 0 2 8 9 12;hand 1 0 3 4 5;", 2),
                "2 3");
            same("a trump", autoOf("blue 4 2 3 rule 0 trump 1 glow 9;hand 0 2 8 9;hand 1 5 4 12;", 2), "2 4");
            same("a trump with less power than of the suit led",
                autoOf("blue 4 2 3 rule 0 trump 1 glow 1;hand 0 1 8 12;hand 1 3 5 6;", 2), "1 5");
            same("of several the smallest",
                autoOf("blue 4 2 3 rule 0 trump 1 glow 2;hand 0 1 0 8;hand 1 2 4 11;", 2), "1 2");
            same("of several the smallest, a trump",
                autoOf("blue 4 2 3 rule 0 trump 0 glow 2;hand 0 5 4 8;hand 1 0 6 11;", 2), "5 0");
            same("better than all so far", autoOf("blue 4 3 2;hand 0 1 4;hand 1 2 8;hand 2 3 0;", 3), "1 2 3");
        });
        doc.promise(36, "without such a one, of those that they may play, the one with the least rank, of several the "
            + "smallest.", () -> {
            same("of the suit led", autoOf("blue 4 2 4;hand 0 3 4 5 8;hand 1 1 2 0 12;", 2), "3 0");
            same("the least rank of all", autoOf("blue 4 2 4;hand 0 3 4 5 8;hand 1 7 9 11 14;", 2), "3 9");
            same("of several the smallest", autoOf("blue 4 2 4;hand 0 3 4 5 8;hand 1 7 13 11 9;", 2), "3 9");
            same("as much power is not enough", autoOf("blue 4 2 2 rule 0 trump 1 glow 1;hand 0 3 8;hand 1 6 12;", 2),
                "3 12");
            same("the rank, not the power", autoOf("blue 4 2 2 rule 0 trump 1 glow 1;hand 0 3 8;hand 1 4 13;", 2),
                "3 4");
        });
        doc.promise(36, "- `cards`: 1 to 52", () -> {
            due("the least", game(THREE).auto(1), 1);
            due("the most", game("blue 13 4 13;").auto(52), 52);
        });
        doc.promise(36, "Returns how many were played; -2 if the hand is over.", () -> {
            FadingTrumps x = game(THREE);
            due("5 of 6", x.auto(5), 5);
            due("1 of 6", x.auto(5), 1);
            refused(x, "behind the hand", y -> y.auto(1), -2);
            refused(x, "behind the hand", y -> y.auto(52), -2);
            x.deal(0);
            due("in a new hand", x.auto(52), 6);
        });
        doc.promise(36, "Throws `IllegalArgumentException` if cards is out of range", () -> {
            FadingTrumps x = game(THREE);
            changesNothing("auto", x, () -> illegalOutside("auto", 1, 52, x::auto));
            x.auto(52);
            changesNothing("auto behind the hand", x, () -> illegalOutside("auto behind the hand", 1, 52, x::auto));
        });
    }

    // ---- 37 tell

    private void tell() {
        doc.promise(37, "Operation: a player tells how many tricks they will have, in place of what they told.", () -> {
            FadingTrumps x = game("blue 4 2 3;tell 0 1;");
            x.tell(1, 0);
            due("who told nothing", x.told(1), 0);
            x.tell(0, 3);
            due("in place of 1", x.told(0), 3);
            due("of the other one", x.told(1), 0);
            x.undo();
            due("undone", x.told(0), 1);
        });
        doc.promise(37, "- `tricks`: 0 to HELD", () -> {
            for (int held : new int[] {1, 3, 13}) {
                FadingTrumps x = game("blue 13 2 " + held + ";");
                due("0", x.tell(0, 0), 0);
                due("HELD", x.tell(0, held), 1);
                due("told", x.told(0), held);
            }
        });
        doc.promise(37, "Returns what they told before, plus 1 (0 if they did not);", () -> {
            FadingTrumps x = game("blue 13 2 13;tell 1 13;");
            due("they did not", x.tell(0, 0), 0);
            due("0 before", x.tell(0, 5), 1);
            due("5 before", x.tell(0, 5), 6);
            due("13 before, by the text", x.tell(1, 0), 14);
            x.auto(52);
            x.deal(0);
            due("they did not in the new hand", x.tell(0, 0), 0);
        });
        doc.promise(37, "-2 if a card was played in the hand.", () -> {
            FadingTrumps x = game("blue 4 2 3;");
            x.auto(1);
            refused(x, "behind the first card", y -> y.tell(0, 1), -2);
            refused(x, "who did not play yet", y -> y.tell(1, 1), -2);
            x.auto(1);
            refused(x, "behind a trick", y -> y.tell(0, 1), -2);
            x.auto(52);
            refused(x, "behind the hand", y -> y.tell(0, 1), -2);
            x.deal(0);
            due("in a new hand", x.tell(0, 1), 0);
        });
        doc.promise(37, "Throws `NoSuchElementException` if there is no such player (checked first)", () -> {
            for (int players = 2; players <= 4; players++) {
                FadingTrumps x = game("blue 4 " + players + " 3;");
                only("tell", players, w -> x.tell(w, 3));
                for (int wrong : new int[] {-1, players, MIN, MAX}) {
                    noSuch("tell(" + wrong + ", 4)", () -> x.tell(wrong, 4));
                    noSuch("tell(" + wrong + ", -1)", () -> x.tell(wrong, -1));
                }
                x.auto(1);
                noSuch("tell behind a card", () -> x.tell(x.size(1), 4));
            }
        });
        doc.promise(37, "Throws `IllegalArgumentException` if tricks is out of range", () -> {
            for (int held : new int[] {1, 3, 13}) {
                FadingTrumps x = game("blue 13 2 " + held + ";");
                changesNothing("tell", x, () -> illegalOutside("tell", 0, held, w -> x.tell(1, w)));
                x.auto(1);
                changesNothing("tell behind a card", x, () -> illegalOutside("tell", 0, held, w -> x.tell(1, w)));
            }
        });
    }

    // ---- 38 deal

    private void deal() {
        doc.promise(38, "Operation: a new hand begins: all cards are dealt, nobody told, nobody is known to lack a "
            + "suit;", this::newHand);
        doc.promise(38, "LEAD is the player behind the one who led the first trick of the hand before (behind the "
            + "last one the player 0).", () -> {
            for (int players = 2; players <= 4; players++) {
                for (int lead = 0; lead < players; lead++) {
                    FadingTrumps x = game("blue 4 " + players + " 3 lead " + lead + ";");
                    for (int hand = 1; hand <= 5; hand++) {
                        x.auto(52);
                        int due = (lead + hand) % players;
                        due("deal, whoever had the last trick", x.deal(hand), due);
                        due("whose turn it is", x.size(9), due);
                        due("who leads", x.size(10), due);
                    }
                }
            }
        });
        doc.promise(38, "The trump that was told is that of the text or of the latest setTrump.", this::trumpOfNewHand);
        doc.promise(38, "- `seed`: 0 to 99999", () -> {
            for (int seed : new int[] {0, 1, 99998, 99999}) {
                FadingTrumps x = game("blue 13 4 13;");
                x.auto(52);
                due("deal(" + seed + ")", x.deal(seed), 1);
                same("its hands", handsOf(x), TermSentences.dealt(TermSentences.rowOf(seed, 52), 4, 13));
            }
        });
        doc.promise(38, "Returns the player who leads; -2 if the hand is not over.", () -> {
            FadingTrumps x = game("blue 4 3 2 lead 1;");
            for (int cards = 0; cards < 6; cards++) {
                refused(x, "deal behind " + cards + " cards", y -> y.deal(7), -2);
                x.auto(1);
            }
            due("deal behind the last card", x.deal(7), 2);
            refused(x, "deal at once again", y -> y.deal(7), -2);
            x.undo();
            due("deal behind undo", x.deal(7), 2);
        });
        doc.promise(38, "Throws `IllegalArgumentException` if seed is out of range", () -> {
            FadingTrumps x = game(THREE);
            changesNothing("deal", x, () -> illegalOutside("deal", 0, 99999, x::deal));
            x.auto(52);
            changesNothing("deal behind the hand", x, () -> illegalOutside("deal behind the hand", 0, 99999, x::deal));
        });
    }

    private void newHand() {
        FadingTrumps x = game(THREE + "tell 0 1;tell 1 0;");
        plays(x, 1, 4, 0, 9, 5, 8);
        yes("a suit was lacked", x.lacks(2, 0));
        x.setRule(2);
        x.setFade(5);
        x.setRevive(true);
        due("deal", x.deal(7), 2);
        same("the sizes", sizesOf(x), "4 3 2 2 1 3 3 5 1 2 2 0 0 1");
        same("all cards are dealt, whatever was told", handsOf(x), "7 9/0 13/4 11");
        for (int player = 0; player < 3; player++) {
            due("nobody told", x.told(player), NONE);
            due("nobody has a trick", x.tricks(player), 0);
            due("the result of nothing", x.result(player), 0);
            for (int suit = 0; suit < 4; suit++) {
                no("nobody is known to lack a suit", x.lacks(player, suit));
            }
            for (int card = 0; card < 16; card++) {
                yes("each card can be in each hand", x.could(player, card));
            }
        }
        noSuch("no card was played", () -> x.played(0, 0));
        noSuch("there is no trick", () -> x.trick(0, 0));
        due("no suit is led", x.led(), NONE);
        due("the points stay", x.points(0), 11);
        due("the points stay", x.points(1), 10);
    }

    private void trumpOfNewHand() {
        FadingTrumps x = game("blue 4 2 2 trump 2 glow 2 revive;hand 0 3 2;hand 1 0 1;");
        x.auto(52);
        same("that passed", lightOf(x), "0 2");
        x.deal(0);
        same("that of the text", lightOf(x), "2 2");
        x.setTrump(3);
        x.auto(52);
        x.deal(0);
        same("that of setTrump", lightOf(x), "3 2");
        x.setTrump(NONE);
        x.auto(52);
        x.deal(0);
        same("none by setTrump", lightOf(x), "-1 0");
        x.setTrump(1);
        x.setTrump(0);
        x.undo();
        x.auto(52);
        x.deal(0);
        same("that of the latest setTrump that is not undone", lightOf(x), "1 2");
        x.auto(52);
        due("one that is refused", x.setTrump(2), -2);
        x.deal(0);
        same("is none", lightOf(x), "1 2");
        FadingTrumps y = game("blue 4 2 2;");
        y.auto(52);
        y.deal(0);
        same("none by the text", lightOf(y), "-1 0");
    }

    // ---- 39 setTrump

    private void setTrump() {
        doc.promise(39, "Operation: the trump and the glow are as when a hand begins with this trump.", () -> {
            FadingTrumps x = game("blue 4 2 3 trump 1 glow 7;");
            for (int suit : new int[] {3, 0, NONE, 2, 2, NONE, NONE}) {
                yes("setTrump", x.setTrump(suit) >= 0);
                same("the trump and the glow", lightOf(x), suit + (suit == NONE ? " 0" : " 7"));
                due("GLOW stays", x.size(6), 7);
            }
            FadingTrumps y = new FadingTrumps();
            y.setTrump(3);
            same("GLOW without 'trump' in the text", lightOf(y), "3 10");
            FadingTrumps z = game("blue 4 2 3 trump 1 glow 0;");
            z.setTrump(2);
            same("GLOW 0", lightOf(z), "2 0");
        });
        doc.promise(39, "- `suit`: 0 to 3, NONE for none", () -> {
            for (int suit = NONE; suit <= 3; suit++) {
                FadingTrumps x = game("blue 4 2 3;");
                due("setTrump(" + suit + ")", x.setTrump(suit), 0);
                due("the trump", x.size(4), suit);
            }
        });
        doc.promise(39, "Returns the trump that was told before, plus 1 (0 for none);", () -> {
            FadingTrumps x = game("blue 4 2 3;");
            due("none before", x.setTrump(0), 0);
            due("0 before", x.setTrump(3), 1);
            due("3 before", x.setTrump(NONE), 4);
            due("none before", x.setTrump(NONE), 0);
            FadingTrumps y = game("blue 4 2 3 trump 2 glow 2 revive;");
            due("of the text before", y.setTrump(1), 3);
            y.auto(52);
            y.deal(0);
            due("that was told, whatever it passed to", y.setTrump(1), 2);
        });
        doc.promise(39, "-2 if a card was played in the hand.", () -> {
            FadingTrumps x = game("blue 4 2 2 trump 1;");
            x.auto(1);
            refused(x, "behind the first card", y -> y.setTrump(2), -2);
            refused(x, "none behind the first card", y -> y.setTrump(NONE), -2);
            x.auto(1);
            refused(x, "behind a trick", y -> y.setTrump(2), -2);
            x.auto(52);
            refused(x, "behind the hand", y -> y.setTrump(2), -2);
            x.deal(0);
            due("in a new hand", x.setTrump(2), 2);
        });
        doc.promise(39, "Throws `IllegalArgumentException` if suit is out of range", () -> {
            FadingTrumps x = game(THREE);
            changesNothing("setTrump", x, () -> illegalOutside("setTrump", -1, 3, x::setTrump));
            x.auto(1);
            changesNothing("setTrump behind a card", x, () -> illegalOutside("setTrump", -1, 3, x::setTrump));
        });
    }

    // ---- 40 setRule

    private void setRule() {
        doc.promise(40, "Operation: sets the rule.", () -> {
            FadingTrumps x = game("blue 4 2 3 rule 0 trump 1;hand 0 1;hand 1 0 3 4;");
            String[] legal = {"0 3 4", "0 3", "3", "0 3"};
            for (int rule = 0; rule <= 3; rule++) {
                x.setRule(rule);
                due("the rule", x.size(3), rule);
                x.play(1);
                same("what they may play by the rule " + rule, legalOf(x), legal[rule]);
                x.undo();
            }
            x.auto(52);
            x.deal(0);
            due("the rule of a new hand", x.size(3), 3);
        });
        doc.promise(40, "- `rule`: 0 to 3", () -> {
            due("the least", new FadingTrumps().setRule(0), 1);
            due("the most", new FadingTrumps().setRule(3), 1);
        });
        doc.promise(40, "Returns the rule before; -2 if a card was played in the present trick.", () -> {
            FadingTrumps x = game("blue 4 3 2;");
            due("the rule of the text", x.setRule(3), 1);
            due("the rule before", x.setRule(0), 3);
            x.auto(1);
            refused(x, "behind the first card", y -> y.setRule(2), -2);
            x.auto(1);
            refused(x, "ahead of the last card", y -> y.setRule(2), -2);
            x.auto(1);
            due("behind the trick", x.setRule(2), 0);
            x.auto(52);
            due("behind the hand", x.setRule(1), 2);
        });
        doc.promise(40, "Throws `IllegalArgumentException` if rule is out of range", () -> {
            FadingTrumps x = game(THREE);
            changesNothing("setRule", x, () -> illegalOutside("setRule", 0, 3, x::setRule));
            x.auto(1);
            changesNothing("setRule in a trick", x, () -> illegalOutside("setRule", 0, 3, x::setRule));
        });
    }

    // ---- 41, 42: setFade, setRevive

    private void setFadeAndRevive() {
        doc.promise(41, "Operation: sets FADE.", () -> {
            FadingTrumps x = game("blue 4 2 4 trump 1 glow 20;");
            x.setFade(9);
            due("FADE", x.size(7), 9);
            x.auto(2);
            due("the glow", x.size(5), 11);
            x.setFade(0);
            x.auto(2);
            due("the glow", x.size(5), 11);
            x.auto(1);
            due("in a trick", x.setFade(1), 0);
            x.auto(1);
            due("the glow", x.size(5), 10);
            x.auto(52);
            due("behind the hand", x.setFade(3), 1);
            x.deal(0);
            due("in a new hand", x.size(7), 3);
        });
        doc.promise(41, "- `fade`: 0 to 9", () -> {
            due("the least", new FadingTrumps().setFade(0), 2);
            due("the most", new FadingTrumps().setFade(9), 2);
        });
        doc.promise(41, "Returns FADE before.", () -> {
            FadingTrumps x = new FadingTrumps();
            due("of the text", x.setFade(9), 2);
            due("9", x.setFade(0), 9);
            due("0", x.setFade(5), 0);
        });
        doc.promise(41, "Throws `IllegalArgumentException` if fade is out of range", () -> {
            FadingTrumps x = game(THREE);
            changesNothing("setFade", x, () -> illegalOutside("setFade", 0, 9, x::setFade));
            x.auto(52);
            changesNothing("setFade behind the hand", x, () -> illegalOutside("setFade", 0, 9, x::setFade));
        });
        doc.promise(42, "Operation: sets REVIVE.", () -> {
            FadingTrumps x = game("blue 4 2 2 trump 3 glow 2;hand 0 3 2;hand 1 0 1;");
            x.setRevive(true);
            due("REVIVE", x.size(8), 1);
            x.auto(2);
            same("it passes", lightOf(x), "0 2");
            x.auto(1);
            x.setRevive(false);
            due("in a trick", x.size(8), 0);
            x.auto(1);
            same("it ends", lightOf(x), "-1 0");
            x.setRevive(true);
            due("behind the hand", x.size(8), 1);
        });
        doc.promise(42, "Returns 1 if it was on, otherwise 0.", () -> {
            FadingTrumps x = new FadingTrumps();
            due("off", x.setRevive(false), 0);
            due("off", x.setRevive(true), 0);
            due("on", x.setRevive(true), 1);
            due("on", x.setRevive(false), 1);
            due("off", x.setRevive(false), 0);
        });
    }

    // ---- 43, 44: format, formattedByte

    private void format() {
        doc.promise(43, "Formats the hand of a player as text: its cards in ascending order, the letter of the suit "
            + "(s, e, i, a for sky, sea, ink, ash) and the rank each, with ' ' between two;", () -> {
            same("all suits", formatOf(game("blue 13 2 4;hand 1 51 0 26 25;"), 1), "s1 e13 i1 a13");
            same("the first and the last card of each suit",
                formatOf(game("blue 4 2 8;hand 0 15 12 11 8 7 4 3 0;"), 0), "s1 s4 e1 e4 i1 i4 a1 a4");
            same("one card", formatOf(game("blue 4 2 1;hand 1 15;"), 1), "a4");
            FadingTrumps x = game("blue 4 2 3;hand 0 1 6 11;");
            plays(x, 6);
            same("without a card that was played", formatOf(x, 0), "s2 i4");
            plays(x, firstLegal(x));
            due("the same length once more", x.format(0), 5);
        });
        doc.promise(43, "'-' without cards.", () -> {
            FadingTrumps x = game("blue 4 2 1;");
            x.auto(1);
            same("who has none", formatOf(x, 0), "-");
            same("who has one", formatOf(x, 1).substring(1), String.valueOf(x.rank(x.inHand(1, 0))));
            x.auto(1);
            same("behind the hand", formatOf(x, 1), "-");
        });
        doc.promise(43, "Numbers have no leading zeros.", () -> {
            same("one digit and two", formatOf(game("blue 13 2 13;hand 0 0 1 2 3 4 5 6 7 8 9 10 11 12;"), 0),
                "s1 s2 s3 s4 s5 s6 s7 s8 s9 s10 s11 s12 s13");
        });
        doc.promise(43, "Returns the number of bytes of the text.", () -> {
            due("one card", game("blue 4 2 1;").format(0), 2);
            due("a card with two digits", game("blue 10 2 1;hand 0 9;").format(0), 3);
            due("the longest", game("blue 13 2 13;hand 0 9 10 11 12 22 23 24 25 35 36 37 38 51;").format(0), 51);
            FadingTrumps x = game("blue 4 2 1;");
            x.auto(2);
            due("no cards", x.format(0), 1);
        });
        doc.promise(43, "Throws `NoSuchElementException` if there is no such player", () -> {
            for (int players = 2; players <= 4; players++) {
                FadingTrumps x = game("blue 4 " + players + " 3;");
                only("format", players, x::format);
                x.auto(52);
                only("format behind the hand", players, x::format);
            }
        });
        formattedByte();
    }

    private void formattedByte() {
        doc.promise(44, "Returns the byte at index of the text of the most recent call of format, as it was then "
            + "(also behind load, undo and restoreSnapshot);", () -> {
            FadingTrumps x = game("blue 13 2 3;hand 0 51 9 0;");
            x.format(0);
            String text = "s1 s10 a13";
            for (int i = 0; i < text.length(); i++) {
                due("the byte " + i, x.formattedByte(i), text.charAt(i));
            }
            x.saveSnapshot();
            x.play(51);
            same("behind a card", Check.shownText(x, 10), text);
            x.undo();
            same("behind undo", Check.shownText(x, 10), text);
            x.format(1);
            String other = Check.shownText(x, x.format(1));
            x.restoreSnapshot();
            same("behind restoreSnapshot", Check.shownText(x, other.length()), other);
            noSuch("format(2)", () -> x.format(2));
            same("behind a call that throws", Check.shownText(x, other.length()), other);
            Check.load(x, "blue 4 2");
            same("behind a load with an error", Check.shownText(x, other.length()), other);
            Check.load(x, "blue 4 2 1;");
            same("behind load", Check.shownText(x, other.length()), other);
            x.format(0);
            due("a later, shorter text", x.formattedByte(2), NONE);
        });
        doc.promise(44, "NONE if index is out of range or there was no such call.", () -> {
            FadingTrumps x = game("blue 4 2 1;hand 0 15;");
            for (int index : new int[] {-1, 0, 1, 2, 50, MIN, MAX}) {
                due("there was no such call", x.formattedByte(index), NONE);
            }
            noSuch("format(2)", () -> x.format(2));
            due("a call that throws is none", x.formattedByte(0), NONE);
            x.format(0);
            due("the first one", x.formattedByte(0), 'a');
            due("the last one", x.formattedByte(1), '4');
            for (int index : new int[] {-1, -2, 2, 3, 51, 52, MIN, MAX}) {
                due("out of range", x.formattedByte(index), NONE);
            }
            FadingTrumps y = game("blue 13 2 13;hand 0 9 10 11 12 22 23 24 25 35 36 37 38 51;");
            y.format(0);
            due("the last one of the longest", y.formattedByte(50), '3');
            due("behind the longest", y.formattedByte(51), NONE);
        });
    }

    // ---- 45, 46: undoCount, undo

    private void undo() {
        doc.promise(45, "Returns the number of operations that can be undone.", () -> {
            FadingTrumps x = game("blue 4 2 3;");
            due("none", x.undoCount(), 0);
            for (int i = 1; i <= 12; i++) {
                x.setFade(1);
                due("operations", x.undoCount(), Math.min(i, 10));
            }
            x.undo();
            due("behind undo", x.undoCount(), 9);
            x.setFade(1);
            due("behind one more", x.undoCount(), 10);
            Check.load(x, "blue 4 2 3;");
            due("behind load", x.undoCount(), 0);
            x.auto(52);
            due("auto counts once", x.undoCount(), 1);
        });
        doc.promise(46, "Undoes the most recent operation.", () -> {
            FadingTrumps x = game("blue 4 2 3;");
            x.setFade(5);
            x.setRule(3);
            x.undo();
            same("the most recent one", x.size(3) + " " + x.size(7), "1 5");
            x.setRevive(true);
            x.undo();
            x.undo();
            same("then the one before", x.size(3) + " " + x.size(7), "1 2");
        });
        doc.promise(46, "Returns the number of operations that can still be undone; NONE if there was nothing to undo.",
            () -> {
            FadingTrumps x = game("blue 4 2 3;");
            changesNothing("undo of nothing", x, () -> due("undo of nothing", x.undo(), NONE));
            x.setFade(5);
            x.setFade(6);
            due("one is left", x.undo(), 1);
            due("none is left", x.undo(), 0);
            due("nothing to undo", x.undo(), NONE);
            due("nothing to undo, again", x.undo(), NONE);
            x.setFade(7);
            due("one more", x.undo(), 0);
            due("FADE", x.size(7), 2);
            x.deal(0);
            due("an operation that failed", x.undo(), NONE);
        });
    }

    // ---- 47, 48: saveSnapshot, restoreSnapshot

    private void snapshots() {
        doc.promise(47, "Saves a snapshot of everything that undoing restores.", () -> {
            for (int operation = 0; operation < NAMES.length; operation++) {
                FadingTrumps x = ready(operation);
                int undos = x.undoCount();
                String before = stateOf(x);
                changesNothing("saveSnapshot", x, x::saveSnapshot);
                operate(x, operation);
                due("saving is no operation", x.undoCount(), undos + 1);
                yes("restoreSnapshot", x.restoreSnapshot());
                same("all that " + NAMES[operation] + " changed", stateOf(x), before);
            }
            FadingTrumps x = game("blue 4 2 3;");
            x.format(0);
            x.saveSnapshot();
            Check.load(x, "red");
            x.format(1);
            String text = Check.shownText(x, 8);
            Check.feed(x, "many 1=1");
            x.restoreSnapshot();
            due("not the error position", x.errorPosition(), 0);
            same("not the text of format", Check.shownText(x, 8), text);
            due("not the buffer", x.query(8), 16);
        });
        doc.promise(47, "It replaces an earlier snapshot.", () -> {
            FadingTrumps x = game("blue 4 2 3;");
            x.saveSnapshot();
            x.setFade(5);
            x.saveSnapshot();
            x.setFade(7);
            x.restoreSnapshot();
            due("the later one", x.size(7), 5);
            x.setFade(8);
            x.restoreSnapshot();
            due("and not the earlier one", x.size(7), 5);
        });
        doc.promise(48, "Restores the snapshot and clears the undo history.", () -> {
            FadingTrumps x = game(THREE);
            x.setFade(1);
            plays(x, 1);
            String before = stateOf(x);
            x.saveSnapshot();
            x.auto(52);
            x.deal(4);
            x.tell(0, 1);
            yes("restoreSnapshot", x.restoreSnapshot());
            same("the snapshot", stateOf(x), before);
            due("the history", x.undoCount(), 0);
            changesNothing("undo", x, () -> due("undo", x.undo(), NONE));
            x.play(4);
            due("a new operation", x.undo(), 0);
            same("undone", stateOf(x), before);
        });
        doc.promise(48, "The snapshot is kept.", () -> {
            FadingTrumps x = game(THREE);
            plays(x, 1);
            x.saveSnapshot();
            String before = stateOf(x);
            for (int i = 0; i < 3; i++) {
                x.auto(52);
                x.deal(i);
                yes("restoreSnapshot", x.restoreSnapshot());
                same("the snapshot", stateOf(x), before);
            }
        });
        doc.promise(48, "Returns true; false if there is no snapshot (nothing changes).", () -> {
            FadingTrumps x = game(THREE);
            plays(x, 1);
            x.format(0);
            changesNothing("restoreSnapshot", x, () -> no("restoreSnapshot without a snapshot", x.restoreSnapshot()));
            due("the history stays", x.undoCount(), 1);
            x.saveSnapshot();
            yes("restoreSnapshot", x.restoreSnapshot());
            Check.load(x, "blue 4 2");
            yes("behind a load with an error", x.restoreSnapshot());
            Check.load(x, "blue 4 2 3;");
            no("behind load", x.restoreSnapshot());
        });
    }
}
