import java.util.ArrayList;
import java.util.List;

/** The constants, the promises 1 to 4, and the section 6 of the terms: the buffer, the text, its errors. */
final class TextSentences extends SentenceTests {
    TextSentences(Doc doc, Check check) {
        super(doc, check);
    }

    @Override
    void all() {
        constants();
        newObject();
        feed();
        load();
        errorPosition();
        tokens();
        grammar();
        hands();
        errors();
    }

    // ---- constants, 1 a new object

    private void constants() {
        doc.constants("There is no such value.", () -> {
            due("NONE", FadingTrumps.NONE, -1);
            due("no trump", new FadingTrumps().size(4), FadingTrumps.NONE);
        });
        doc.constants("Error results of query start here.", () -> {
            due("HIDDEN", FadingTrumps.HIDDEN, -1000000000);
            due("the error 1 of a query", Check.query(new FadingTrumps(), "many"), -1000000001);
        });
    }

    private void newObject() {
        doc.promise(1, "Creates a game as by the text \"blue 9 2 5;\".", () -> {
            FadingTrumps x = new FadingTrumps();
            same("a new object", allOf(x), allOf(game("blue 9 2 5;")));
            same("its sizes", sizesOf(x), "9 2 5 1 -1 0 10 2 0 0 0 0 0 0");
            // the row of the seed 0 begins 22 14 26 13 20 15 19 4 31 3
            same("its hands", handsOf(x), TermSentences.dealt(TermSentences.rowOf(0, 36), 2, 5));
            same("its hands", handsOf(x), "19 20 22 26 31/3 4 13 14 15");
            due("nothing to undo", x.undo(), NONE);
            no("no snapshot", x.restoreSnapshot());
            due("no format", x.formattedByte(0), NONE);
            due("the buffer is empty", Check.of(() -> x.load(1)), Check.ILLEGAL);
            due("the buffer is empty", x.feed(0, 0, 0, 0, 0), 20);
        });
    }

    // ---- 2 feed

    private void feed() {
        doc.promise(2, "Appends 20 bytes to the buffer: the four bytes of each parameter, the most significant byte "
            + "first.", this::twentyBytes);
        doc.promise(2, "Returns the number of bytes in the buffer; NONE if it would exceed 500, and then nothing is "
            + "appended.", this::fullBuffer);
    }

    private void twentyBytes() {
        FadingTrumps x = new FadingTrumps();
        // "blue", " 13 ", "4 2;", "tell", " 3 1" and then ";" with an error, so that each place counts
        due("feed", x.feed(0x626c7565, 0x20313320, 0x3420323b, 0x74656c6c, 0x20332031), 20);
        due("feed", x.feed(0x3b20ff20, 0x20202020, 0x20202020, 0x20202020, 0x20202020), 40);
        due("the byte behind is invalid", x.load(40), -11);
        due("its place", x.errorPosition(), 22);
        x.feed(0x626c7565, 0x20313320, 0x3420323b, 0x74656c6c, 0x20332031);
        x.feed(0x3b20ff20, 0x20202020, 0x20202020, 0x20202020, 0x20202020);
        due("the text without it", x.load(22), 8);
        due("told(3)", x.told(3), 1);
        for (int place = 0; place < 20; place++) {
            int[] w = {0x20202020, 0x20202020, 0x20202020, 0x20202020, 0x20202020};
            w[place / 4] ^= 0xa0 << 24 - 8 * (place % 4);
            x.feed(w[0], w[1], w[2], w[3], w[4]);
            due("an invalid byte at " + place, x.load(20), -11);
            due("the place of the byte " + place, x.errorPosition(), place);
        }
    }

    private void fullBuffer() {
        FadingTrumps x = new FadingTrumps();
        int[] w = Check.words("blue 4 2 3;", 0);
        for (int count = 20; count <= 500; count += 20) {
            due("feed", x.feed(w[0], w[1], w[2], w[3], w[4]), count);
            w = Check.words("", 0);
        }
        due("feed of more than 500", x.feed(-1, -1, -1, -1, -1), NONE);
        due("and again", x.feed(-1, -1, -1, -1, -1), NONE);
        illegal("nothing was appended", () -> x.load(501));
        illegal("nothing was appended", () -> x.load(520));
        due("nothing was written over", x.load(500), 6);
        due("feed of an empty buffer", x.feed(-1, -1, -1, -1, -1), 20);
    }

    // ---- 3 load

    private void load() {
        doc.promise(3, "Reads the first bytes of the buffer as a text, which replaces everything;", this::replacesAll);
        doc.promise(3, "the undo history and the snapshot are discarded.", this::discards);
        doc.promise(3, "The buffer is empty afterwards, also after an error.", this::emptyAfterwards);
        doc.promise(3, "- `length`: number of bytes to read", this::lengths);
        doc.promise(3, "Returns the number of cards that are in hands;", this::cardsInHands);
        doc.promise(3, "-10 minus the error code if the text has an error (then only the buffer and the error "
            + "position change).", this::errorChangesNothing);
        doc.promise(3, "Throws `IllegalArgumentException` if length is negative or greater than the number of bytes "
            + "in the buffer (nothing changes)", this::wrongLengths);
    }

    /** A game of which nothing is as at first. */
    private FadingTrumps used() {
        FadingTrumps x = game("blue 5 3 2 rule 3 trump 2 glow 7 fade 3 revive lead 2 seed 5;tell 1 2;");
        x.auto(6);
        x.deal(8);
        x.tell(0, 1);
        x.auto(4);
        x.format(1);
        return x;
    }

    private void replacesAll() {
        FadingTrumps x = used();
        due("load", Check.load(x, "blue 4 2 3;"), 6);
        same("as in a new game", stateOf(x), stateOf(game("blue 4 2 3;")));
        FadingTrumps y = used();
        due("load of a larger one", Check.load(y, "blue 13 4 13 trump 1;"), 52);
        same("as in a new game", stateOf(y), stateOf(game("blue 13 4 13 trump 1;")));
        due("load of the first one again", Check.load(y, "blue 9 2 5;"), 10);
        same("as a new object", stateOf(y), stateOf(new FadingTrumps()));
        y.auto(52);
        y.deal(3);
        FadingTrumps z = new FadingTrumps();
        z.auto(52);
        z.deal(3);
        same("also later", stateOf(y), stateOf(z));
    }

    private void discards() {
        FadingTrumps x = used();
        x.saveSnapshot();
        due("operations ahead of load", x.undoCount(), 4);
        due("load", Check.load(x, "blue 4 2 3;"), 6);
        due("operations behind load", x.undoCount(), 0);
        changesNothing("undo", x, () -> due("undo", x.undo(), NONE));
        changesNothing("restoreSnapshot", x, () -> no("restoreSnapshot", x.restoreSnapshot()));
        x.setFade(7);
        due("undo of a new operation", x.undo(), 0);
        due("what was there", x.size(7), 2);
    }

    private void emptyAfterwards() {
        FadingTrumps x = new FadingTrumps();
        Check.feed(x, "blue 4 2 3;         blue 5 2 3;");
        due("load of a part", x.load(11), 6);
        illegal("the rest has gone", () -> x.load(1));
        due("feed", x.feed(0, 0, 0, 0, 0), 20);
        due("load with an error", x.load(20), -11);
        illegal("the buffer behind an error", () -> x.load(1));
        due("feed behind an error", x.feed(0, 0, 0, 0, 0), 20);
        due("load of nothing", x.load(0), -11);
        due("feed behind a load of nothing", x.feed(0, 0, 0, 0, 0), 20);
    }

    private void lengths() {
        FadingTrumps x = new FadingTrumps();
        due("load(0) of an empty buffer", x.load(0), -11);
        due("its place", x.errorPosition(), 0);
        Check.feed(x, "blue 4 2 3;tell 0 1;");
        due("all of the buffer", x.load(20), 6);
        due("told", x.told(0), 1);
        Check.feed(x, "blue 4 2 3;tell 0 1;");
        due("only the first bytes", x.load(11), 6);
        due("told", x.told(0), NONE);
        Check.feed(x, "blue 4 2 3;tell 0 1;");
        due("a byte too few", x.load(19), -11);
        due("its place", x.errorPosition(), 19);
        Check.feed(x, "blue 4 2 12;");
        due("a number is cut", x.load(10), -11);
        due("its place", x.errorPosition(), 10);
        String longest = "blue 4 2 3;" + " ".repeat(480) + "tell 0 2;";
        due("the length", longest.length(), 500);
        due("500 bytes", Check.load(x, longest), 6);
        due("told", x.told(0), 2);
        Check.feed(x, longest);
        due("499 of 500 bytes", x.load(499), -11);
        due("its place", x.errorPosition(), 499);
    }

    private void cardsInHands() {
        due("the fewest", Check.load(new FadingTrumps(), "blue 4 2 1;"), 2);
        due("the most", Check.load(new FadingTrumps(), "blue 13 4 13;"), 52);
        due("3 players", Check.load(new FadingTrumps(), "blue 13 3 13;"), 39);
        due("all of the smallest row", Check.load(new FadingTrumps(), "blue 4 4 4;hand 2 3;"), 16);
    }

    private void errorChangesNothing() {
        FadingTrumps x = used();
        x.saveSnapshot();
        x.setRule(0);
        String before = stateOf(x);
        String text = formatText(x);
        int undos = x.undoCount();
        String[] wrong = {"", "blue 4 2 3", "blue 4 2 9;", "blue 9 2 3;hand 0 1;hand 1 1;",
            "blue 9 2 3 rule 0 trump 1 glow 2 fade 2 revive lead 1 seed 4;tell 1 2;hand 0 1 2 3;tell 1 1;"};
        int[] codes = {1, 1, 2, 3, 3};
        for (int i = 0; i < wrong.length; i++) {
            due("load of '" + wrong[i] + "'", Check.load(x, wrong[i]), -10 - codes[i]);
            yes("the error position changes", x.errorPosition() != NONE);
            same("nothing else changes by '" + wrong[i] + "'", stateOf(x), before);
            due("the history stays", x.undoCount(), undos);
            same("the text of format stays", formatText(x), text);
        }
        due("the history can be used", x.undo(), undos - 1);
        x.setFade(9);
        yes("the snapshot stays", x.restoreSnapshot());
        due("what was saved", x.size(7), 3);
    }

    private String formatText(FadingTrumps x) {
        return Check.shownText(x, 51);
    }

    private void wrongLengths() {
        FadingTrumps x = used();
        Check.load(x, "blue 4 2 9;");
        due("an error position", x.errorPosition(), 9);
        x.setFade(5);
        illegal("load(1) of an empty buffer", () -> x.load(1));
        Check.feed(x, "blue 4 2 3;");
        for (int wrong : new int[] {-1, -2, 21, 22, 500, 501, MIN, MAX}) {
            changesNothing("load(" + wrong + ")", x, () -> illegal("load(" + wrong + ")", () -> x.load(wrong)));
        }
        due("the buffer has not changed", x.feed(0, 0, 0, 0, 0), 40);
        due("nor its bytes", x.load(20), 6);
    }

    // ---- 4 errorPosition

    private void errorPosition() {
        doc.promise(4, "Returns the position of the error of the most recent call of load or query that read the "
            + "buffer;", this::latestPosition);
        doc.promise(4, "NONE if that call had no error, or there was no such call.", this::noPosition);
    }

    private void latestPosition() {
        FadingTrumps x = new FadingTrumps();
        Check.load(x, "blue 4 2 9;");
        due("of a load", x.errorPosition(), 9);
        Check.query(x, "many rank 1");
        due("of a later query", x.errorPosition(), 10);
        Check.load(x, "red");
        due("of a later load, at the first byte", x.errorPosition(), 0);
        illegal("load(1)", () -> x.load(1));
        illegal("query(1)", () -> x.query(1));
        illegal("query(201)", () -> x.query(201));
        due("calls that throw did not read", x.errorPosition(), 0);
        Check.query(x, "many");
        due("of the end of a text", x.errorPosition(), 4);
        x.setFade(3);
        x.undo();
        x.saveSnapshot();
        x.restoreSnapshot();
        x.feed(0, 0, 0, 0, 0);
        x.format(0);
        due("other calls do not change it", x.errorPosition(), 4);
    }

    private void noPosition() {
        FadingTrumps x = new FadingTrumps();
        due("there was no such call", x.errorPosition(), NONE);
        illegal("load(-1)", () -> x.load(-1));
        due("there was no such call that read", x.errorPosition(), NONE);
        Check.load(x, "blue");
        Check.load(x, "blue 4 2 3;");
        due("a load without an error", x.errorPosition(), NONE);
        Check.load(x, "blue");
        Check.query(x, "first card=99");
        due("a query without an error, also if there is no card", x.errorPosition(), NONE);
    }

    // ---- 6 tokens

    private void tokens() {
        doc.term(6, "The text comes from a byte buffer.", () -> {
            FadingTrumps x = new FadingTrumps();
            due("an empty buffer", x.load(0), -11);
            due("load", Check.load(x, "blue 4 2 3;"), 6);
        });
        doc.term(6, "Tokens: a word is a maximal run of the letters a to z; a number is a maximal run of digits "
            + "(leading zeros are allowed); ; is a token.", this::words);
        doc.term(6, "The bytes 32 and 10 separate tokens and are otherwise ignored.", this::separators);
        doc.term(6, "Every other byte is an invalid token.", this::otherBytes);
    }

    private void words() {
        reads("blue4 2 3;");
        reads("blue4 2 3rule0trump1glow2fade3revive lead1seed5;hand0 1;tell1 2;");
        fails("bluerule", 1, 0);
        fails("blues 4 2 3;", 1, 0);
        fails("blu 4 2 3;", 1, 0);
        fails("blue 4 2 3 rulez 1;", 1, 11);
        fails("blue 4 2 3 rulea 1;", 1, 11);
        fails("blue 4 2 3 rule`1;", 1, 15);
        fails("blue 4 2 3 rule{1;", 1, 15);
        fails("blue 4 2 3 ruleA1;", 1, 15);
        fails("blue 4 2 3 ruleZ1;", 1, 15);
        fails("blue 4 2 3 revivelead 1;", 1, 11);
        fails("blue 42 3;", 2, 5);
        fails("blue 4 2 3 seed 1/;", 1, 17);
        fails("blue 4 2 3 seed 1:;", 1, 17);
        fails("blue 4 2 3 seed 100000;", 2, 16);
        reads("blue 4 2 3 seed 90909;");
        reads("blue 4 2 3 seed 12345;");
        reads("blue 4 2 3 seed 67890;");
        same("the seed 67890", handsOf(game("blue 4 2 3 seed 67890;")),
            TermSentences.dealt(TermSentences.rowOf(67890, 16), 2, 3));
        same("leading zeros", handsOf(game("blue 0004 02 003 seed 0000000000000000000000000000000067890;")),
            handsOf(game("blue 4 2 3 seed 67890;")));
        reads("blue 4 2 3 seed 00000;");
        fails("blue 4 2 3;;", 1, 11);
        fails("blue 4 2;3;", 1, 8);
        fails("blue 4 2 3:", 1, 10);
        String text = "blue 4 2 3 rule 2 trump 1 glow 3 fade 1 revive lead 1 seed 9;hand 0 1 2;tell 1 0;";
        reads(text);
        eachLetter(text, this::fails);
    }

    private void separators() {
        String[] tokens = {"blue", "4", "2", "3", "rule", "2", "trump", "1", "glow", "3", "fade", "1", "revive",
            "lead", "1", "seed", "9", ";", "hand", "0", "1", "2", ";", "tell", "1", "0", ";"};
        String one = stateOf(game(String.join(" ", tokens)));
        same("blanks", stateOf(game("   " + String.join("  ", tokens) + "   ")), one);
        same("new lines", stateOf(game("\n" + String.join("\n", tokens) + "\n\n")), one);
        same("both", stateOf(game("\n \n" + String.join("\n ", tokens) + " \n")), one);
        same("none but where they must be",
            stateOf(game("blue4 2 3rule2trump1glow3fade1revive lead1seed9;hand0 1 2;tell1 0;")), one);
        fails("bl ue 4 2 3;", 1, 0);
        fails("bl\nue 4 2 3;", 1, 0);
        fails("blue 1 3 2 1;", 2, 5);
        fails("blue 1\n3 2 1;", 2, 5);
        fails(" \n", 1, 2);
        fails("\n\n blue 4 2", 1, 11);
    }

    private void otherBytes() {
        for (int sign = 0; sign < 256; sign++) {
            String byteOf = String.valueOf((char) sign);
            if (sign == 32 || sign == 10) {
                reads("blue 4 2 3;" + byteOf);
                reads("blue" + byteOf + "4 2 3;");
                continue;
            }
            fails("blue 4 2 3;" + byteOf, 1, 11);
            boolean letter = sign >= 'a' && sign <= 'z';
            boolean digit = sign >= '0' && sign <= '9';
            if (!letter && !digit && sign != ';') {
                fails("blue 4 2 3" + byteOf + ";", 1, 10);
                fails(byteOf + "blue 4 2 3;", 1, 0);
                fails("blue" + byteOf + "4 2 3;", 1, 4);
                fails("blue 4 2 3 ru" + byteOf + "le 1;", 1, 11);
                fails("blue 4 2 3 rule" + byteOf + "1;", 1, 15);
                fails("blue 4 2 3;tell 0 " + byteOf + "1;", 1, 18);
                fails("blue 4 2 3;tell 0 1" + byteOf + byteOf, 1, 19);
            }
        }
    }

    // ---- 6 the grammar

    private void grammar() {
        doc.term(6, "Grammar (quoted = literal, * = any number of times, brackets = optional, | = or; the ranges of "
            + "numbers are those of the quantities):", this::ranges);
        doc.term(6, "text: 'blue' RANKS players HELD ['rule' rule] ['trump' suit ['glow' GLOW] ['fade' FADE] "
            + "['revive']] ['lead' LEAD] ['seed' seed] ';' (clause ';')*", this::heads);
        doc.term(6, "clause: 'hand' player card card* | 'tell' player tricks", this::clauses);
        doc.term(6, "The rule is 1, GLOW 10, FADE 2, LEAD 0 and the seed 0 without them; REVIVE is on only with "
            + "'revive'.", this::withoutThem);
    }

    private void ranges() {
        range("blue ", 4, 13, " 2 4;");
        range("blue 4 ", 2, 4, " 4;");
        range("blue 13 2 ", 1, 13, ";");
        range("blue 4 2 3 rule ", 0, 3, ";");
        range("blue 4 2 3 trump ", 0, 3, " revive;");
        range("blue 4 2 3 trump 0 glow ", 0, 30, " fade 1;");
        range("blue 4 2 3 trump 0 fade ", 0, 9, " seed 1;");
        range("blue 4 4 3 lead ", 0, 3, ";");
        range("blue 4 2 3 lead ", 0, 1, ";");
        range("blue 4 2 3 seed ", 0, 99999, ";");
        range("blue 4 3 3;hand ", 0, 2, " 5;");
        range("blue 4 3 3;hand 0 ", 0, 15, ";");
        reads("blue 4 3 3;hand 0 5 0;");
        reads("blue 4 3 3;hand 0 5 15;");
        fails("blue 4 3 3;hand 0 5 16;", 2, 20);
        range("blue 4 2 3;tell ", 0, 1, " 1;");
        range("blue 4 3 3;tell ", 0, 2, " 1;");
        range("blue 4 4 3;tell ", 0, 3, " 1;");
        range("blue 4 4 3;hand ", 0, 3, " 5;");
        range("blue 4 3 3;tell 0 ", 0, 3, ";");
        range("blue 13 3 13;tell 0 ", 0, 13, ";");
    }

    /** Each choice of the optional parts is read, and says what stands in it. */
    private void heads() {
        for (int choice = 0; choice < 128; choice++) {
            boolean trump = (choice & 2) != 0;
            if (!trump && (choice & (4 + 8 + 16)) != 0) {
                continue;
            }
            String text = "blue 5 3 4" + part(choice, 1, " rule 3") + part(choice, 2, " trump 2")
                + part(choice, 4, " glow 7") + part(choice, 8, " fade 5") + part(choice, 16, " revive")
                + part(choice, 32, " lead 2") + part(choice, 64, " seed 77") + ";";
            FadingTrumps x = game(text);
            int glow = (choice & 4) != 0 ? 7 : 10;
            int lead = (choice & 32) != 0 ? 2 : 0;
            String rule = (choice & 1) != 0 ? "3" : "1";
            String light = trump ? "2 " + glow : "-1 0";
            String fade = (choice & 8) != 0 ? "5" : "2";
            String revive = (choice & 16) != 0 ? "1" : "0";
            same("the sizes of " + text, sizesOf(x), String.join(" ", "5 3 4", rule, light, String.valueOf(glow), fade,
                revive, lead + " " + lead + " 0 0 0"));
            same("the hands of " + text, handsOf(x),
                TermSentences.dealt(TermSentences.rowOf((choice & 64) != 0 ? 77 : 0, 20), 3, 4));
        }
        otherOrders();
        cutTexts();
    }

    private static String part(int choice, int bit, String text) {
        return (choice & bit) != 0 ? text : "";
    }

    private void otherOrders() {
        fails("blue 4 2 3 trump 0 rule 1;", 1, 19);
        fails("blue 4 2 3 lead 0 trump 1;", 1, 18);
        fails("blue 4 2 3 seed 0 lead 1;", 1, 18);
        fails("blue 4 2 3 trump 0 fade 1 glow 2;", 1, 26);
        fails("blue 4 2 3 trump 0 revive fade 2;", 1, 26);
        fails("blue 4 2 3 trump 0 revive glow 2;", 1, 26);
        fails("blue 4 2 3 glow 2;", 1, 11);
        fails("blue 4 2 3 fade 2;", 1, 11);
        fails("blue 4 2 3 revive;", 1, 11);
        fails("blue 4 2 3 rule 1 glow 2;", 1, 18);
        fails("blue 4 2 3 rule 1 rule 1;", 1, 18);
        fails("blue 4 2 3 trump 1 trump 1;", 1, 19);
        fails("blue 4 2 3 trump 1 glow 1 glow 1;", 1, 26);
        fails("blue 4 2 3 trump 1 fade 1 fade 1;", 1, 26);
        fails("blue 4 2 3 trump 1 revive revive;", 1, 26);
        fails("blue 4 2 3 lead 1 lead 1;", 1, 18);
        fails("blue 4 2 3 seed 1 seed 1;", 1, 18);
        fails("blue 4 2 3 1;", 1, 11);
        fails("blue 4 2 3 blue;", 1, 11);
        fails("blue 4 2 3 hand 0 1;", 1, 11);
        fails("blue 4 2 3 rule 1 2;", 1, 18);
        fails("blue 4 2 3 trump 1 revive 1;", 1, 26);
        fails("4 2 3;", 1, 0);
        fails(";", 1, 0);
        fails("blue ;", 1, 5);
        fails("blue 4 ;", 1, 7);
        fails("blue 4 2 ;", 1, 9);
        fails("blue 4 2 rule 1;", 1, 9);
        fails("blue 4 2 3 rule;", 1, 15);
        fails("blue 4 2 3 rule rule;", 1, 16);
        fails("blue 4 2 3 trump;", 1, 16);
        fails("blue 4 2 3 trump glow 1;", 1, 17);
        fails("blue 4 2 3 trump 1 glow;", 1, 23);
        fails("blue 4 2 3 trump 1 fade;", 1, 23);
        fails("blue 4 2 3 lead;", 1, 15);
        fails("blue 4 2 3 seed;", 1, 15);
    }

    /** Wherever a text is cut it ends too early, but behind a ';'. */
    private void cutTexts() {
        String text = "blue 4 2 3 rule 2 trump 1 glow 3 fade 1 revive lead 1 seed 9 ;"
            + " hand 0 1 2 ; tell 1 0 ; hand 1 3 ;";
        for (int at = 0; at <= text.length(); at++) {
            if (at < text.length() && text.charAt(at) != ' ') {
                continue;
            }
            String cut = text.substring(0, at);
            for (String blanks : new String[] {"", " ", "\n  "}) {
                if (cut.endsWith(";")) {
                    reads(cut + blanks);
                } else {
                    fails(cut + blanks, 1, (cut + blanks).length());
                }
            }
        }
    }

    private void clauses() {
        reads("blue 4 2 3;");
        reads("blue 4 2 3;hand 0 1;");
        reads("blue 4 2 3;hand 0 1 2 3;");
        reads("blue 4 2 3;hand 0 1;hand 0 2;hand 0 3;");
        reads("blue 4 2 3;tell 0 1;hand 1 1;tell 1 1;hand 0 2;");
        reads("blue 13 2 13;hand 1 0 1 2 3 4 5 6 7 8 9 10 11 12;");
        fails("blue 4 2 3;hand;", 1, 15);
        fails("blue 4 2 3;hand 0;", 1, 17);
        fails("blue 4 2 3;hand 0 1", 1, 19);
        fails("blue 4 2 3;hand 0 1 hand 1 2;", 1, 20);
        fails("blue 4 2 3;hand 0 1 tell;", 1, 20);
        fails("blue 4 2 3;hand hand;", 1, 16);
        fails("blue 4 2 3;hand 0 1;;", 1, 20);
        fails("blue 4 2 3;tell;", 1, 15);
        fails("blue 4 2 3;tell 0;", 1, 17);
        fails("blue 4 2 3;tell 0 1", 1, 19);
        fails("blue 4 2 3;tell 0 1 1;", 1, 20);
        fails("blue 4 2 3;tell 0 1;;", 1, 20);
        fails("blue 4 2 3;tells 0 1;", 1, 11);
        fails("blue 4 2 3;hands 0 1;", 1, 11);
        fails("blue 4 2 3;rule 1;", 1, 11);
        fails("blue 4 2 3;0 1;", 1, 11);
        fails("blue 4 2 3;blue 4 2 3;", 1, 11);
    }

    private void withoutThem() {
        same("the sizes", sizesOf(game("blue 4 2 3;")), "4 2 3 1 -1 0 10 2 0 0 0 0 0 0");
        same("with a trump", sizesOf(game("blue 4 2 3 trump 3;")), "4 2 3 1 3 10 10 2 0 0 0 0 0 0");
        same("with 'revive'", sizesOf(game("blue 4 2 3 trump 3 revive;")), "4 2 3 1 3 10 10 2 1 0 0 0 0 0");
        same("the seed", handsOf(game("blue 4 2 3;")), handsOf(game("blue 4 2 3 seed 0;")));
        no("another seed", handsOf(game("blue 4 2 3;")).equals(handsOf(game("blue 4 2 3 seed 1;"))));
        FadingTrumps x = game("blue 5 3 2 rule 3 trump 2 glow 7 fade 3 revive lead 2 seed 5;");
        Check.load(x, "blue 4 2 3;");
        same("they are not those of the text before", sizesOf(x), "4 2 3 1 -1 0 10 2 0 0 0 0 0 0");
        same("nor is the seed", handsOf(x), handsOf(game("blue 4 2 3 seed 0;")));
    }

    // ---- 6 hands that are told

    private void hands() {
        doc.term(6, "'hand' tells cards of a player; cards that are told are theirs.", () -> {
            same("all cards told", handsOf(game("blue 4 2 3;hand 1 15 0 7;hand 0 14 1 8;")), "1 8 14/0 7 15");
            same("in several clauses", handsOf(game("blue 4 2 3;hand 1 15;hand 0 14 1;hand 1 0;hand 0 8;hand 1 7;")),
                "1 8 14/0 7 15");
            due("one told", game("blue 4 3 2;hand 2 15;").holder(15), 2);
            due("the first card told", game("blue 4 3 2;hand 2 0;").holder(0), 2);
        });
        doc.term(6, "Who has fewer than HELD cards told gets the first ones of those that nobody was told, in the "
            + "order in which they lie behind the exchanges of the seed: the player 0 all that are lacking, then the "
            + "player 1, and so on.", this::filledUp);
        doc.term(6, "Without any 'hand' all cards are dealt as in section 1.", () -> {
            same("no clause", handsOf(game("blue 4 3 2 seed 7;")), "7 9/0 13/4 11");
            same("a clause without a hand", handsOf(game("blue 4 3 2 seed 7;tell 0 1;tell 2 0;")), "7 9/0 13/4 11");
            same("one card that is the first one anyway", handsOf(game("blue 4 3 2 seed 7;hand 0 7;")),
                "7 13/4 9/0 11");
        });
    }

    private void filledUp() {
        // the row of the seed 7 begins 7 13 4 9 0 11 ..
        same("one card told", handsOf(game("blue 4 3 2 seed 7;hand 1 4;")), "7 13/4 9/0 11");
        same("of the last player", handsOf(game("blue 4 3 2 seed 7;hand 2 7;")), "4 13/0 9/7 11");
        same("all of one player", handsOf(game("blue 4 3 2 seed 7;hand 0 7 13;")), "7 13/4 9/0 11");
        same("a card from far behind", handsOf(game("blue 4 3 2 seed 7;hand 0 " + TermSentences.rowOf(7, 16)[15] + ";"))
            .replaceAll("^[^/]*", ""), "/4 13/0 9");
        int[][] told = {{}, {0}, {15, 7}, {3, 8, 12}};
        for (int seed : new int[] {0, 5, 99999}) {
            for (int players = 2; players <= 4; players++) {
                for (int held = 3; held <= 16 / players; held++) {
                    filledUp(seed, players, held, told);
                }
            }
        }
    }

    private void filledUp(int seed, int players, int held, int[][] told) {
        StringBuilder text = new StringBuilder("blue 4 " + players + " " + held + " seed " + seed + ";");
        List<List<Integer>> hands = new ArrayList<>();
        List<Integer> free = new ArrayList<>();
        for (int card : TermSentences.rowOf(seed, 16)) {
            free.add(card);
        }
        for (int player = 0; player < players; player++) {
            hands.add(new ArrayList<>());
            for (int card : told[player]) {
                hands.get(player).add(card);
                free.remove((Integer) card);
                text.append("hand ").append(player).append(' ').append(card).append(';');
            }
        }
        StringBuilder want = new StringBuilder();
        for (List<Integer> hand : hands) {
            while (hand.size() < held) {
                hand.add(free.remove(0));
            }
            hand.sort(null);
            want.append(want.length() > 0 ? "/" : "").append(hand.toString().replaceAll("[\\[\\],]", ""));
        }
        same("the hands of " + text, handsOf(game(text.toString())), want.toString());
    }

    // ---- 6 error codes

    private void errors() {
        doc.term(6, "Error codes. The first error along the text is reported, at the first byte of its token;",
            this::firstErrors);
        doc.term(6, "if several codes apply to one token, the smallest one.", this::smallestCodes);
        doc.term(6, "1 The token is invalid or not allowed here, or the text ends too early (the position is then the "
            + "length of the text).", this::notAllowed);
        doc.term(6, "2 A number that is out of range (HELD also if there are not enough cards; tricks are 0 to HELD).",
            this::outOfRange);
        doc.term(6, "3 A card that was told already; a card of a player by which they would have more than HELD; a "
            + "player who told already.", this::toldTwice);
    }

    private void firstErrors() {
        fails("blue 3 5 99;", 2, 5);
        fails("blue 4 5 99;", 2, 7);
        fails("blue 4 2 99!", 2, 9);
        fails("blue 4 2 3;hand 0 1 1;tell 9", 3, 20);
        fails("blue 4 2 3;hand 2 99;", 2, 16);
        fails("blue 4 2 3;tell 2 99;", 2, 16);
        fails("blue 4 2 3 lead 00002;", 2, 16);
        fails("blue 4 2 3 seeds 1;", 1, 11);
        fails("blue 4 2 3 seed 1000000000000000000000;", 2, 16);
        // all that stands behind may be wrong, too: an invalid byte in the place of each blank
        String text = "blue 4 2 3 rule 2 trump 1 glow 3 fade 1 revive lead 1 seed 9 ;"
            + " hand 0 1 2 ; tell 1 0 ; hand 1 3 ;";
        for (int at = text.indexOf(' '); at > 0; at = text.indexOf(' ', at + 1)) {
            fails(text.substring(0, at) + "!" + text.substring(at + 1).replace(' ', '?'), 1, at);
        }
    }

    private void smallestCodes() {
        // 99 is no card, and one more than HELD
        fails("blue 4 2 2;hand 0 1 2 99;", 2, 22);
        // 1 was told already, and is one more than HELD
        fails("blue 4 2 2;hand 0 1 2 1;", 3, 22);
        // there is no player 2; 'x' is not allowed
        fails("blue 4 2 2;tell 0 1;tell 2 1;", 2, 25);
        fails("blue 4 2 2;hand 0 1 2 x;", 1, 22);
        fails("blue 4 2 2;hand 0 1 2 -3;", 1, 22);
        // a number where none is allowed has no range
        fails("blue 4 2 2 99999999999;", 1, 11);
        fails("blue 4 2 2;tell 0 1 99;", 1, 20);
    }

    private void notAllowed() {
        fails("", 1, 0);
        fails("   ", 1, 3);
        fails("blue", 1, 4);
        fails("blue 4 2 3", 1, 10);
        fails("blue 4 2 3;tell 0 1  ", 1, 21);
        fails("blue 4 2 3 \u0000;", 1, 11);
        fails("blue 4 2 3 (;", 1, 11);
        fails("blue 4 2 3=;", 1, 10);
        fails("blue blue 4 2 3;", 1, 5);
        fails("blue 4 2 3 and;", 1, 11);
        FadingTrumps x = new FadingTrumps();
        Check.feed(x, "blue 4 2 3;");
        due("the text is cut by its length", x.load(8), -11);
        due("the length of the text, not of the buffer", x.errorPosition(), 8);
    }

    private void outOfRange() {
        range("blue ", 4, 13, " 2 1;");
        range("blue 4 ", 2, 4, " 1;");
        range("blue 4 2 ", 1, 8, ";");
        range("blue 4 3 ", 1, 5, ";");
        range("blue 4 4 ", 1, 4, ";");
        range("blue 5 3 ", 1, 6, ";");
        range("blue 6 2 ", 1, 12, ";");
        range("blue 7 2 ", 1, 13, ";");
        range("blue 9 3 ", 1, 12, ";");
        range("blue 10 3 ", 1, 13, ";");
        range("blue 12 4 ", 1, 12, ";");
        range("blue 13 4 ", 1, 13, ";");
        range("blue 4 2 8;tell 1 ", 0, 8, ";");
        range("blue 4 2 1;tell 1 ", 0, 1, ";");
        range("blue 13 4 13;tell 3 ", 0, 13, ";");
        range("blue 13 4 13;hand 3 ", 0, 51, ";");
        fails("blue 4 2 3;tell 0 4;", 2, 18);
    }

    private void toldTwice() {
        fails("blue 4 2 3;hand 0 1 1;", 3, 20);
        fails("blue 4 2 3;hand 0 0 2 0;", 3, 22);
        fails("blue 4 2 3;hand 0 15 15;", 3, 21);
        fails("blue 4 2 3;hand 0 1;hand 1 1;", 3, 27);
        fails("blue 4 2 3;hand 0 1;hand 0 1;", 3, 27);
        fails("blue 4 2 3;hand 0 1 0001;", 3, 20);
        fails("blue 4 2 3;hand 0 1 2 3 4;", 3, 24);
        reads("blue 4 2 3;hand 0 1 2 3;hand 1 4;");
        fails("blue 4 2 3;hand 0 1 2 3;hand 0 4;", 3, 31);
        fails("blue 4 2 1;hand 1 1;hand 1 2;", 3, 27);
        fails("blue 4 2 3;tell 0 1;tell 0 1;", 3, 25);
        fails("blue 4 2 3;tell 1 0;tell 0 0;tell 1 0;", 3, 34);
        fails("blue 4 2 3;tell 0 0;tell 0 x;", 3, 25);
        fails("blue 4 2 3;tell 0 0;hand 0 1;tell 0 0;", 3, 34);
    }
}
