import java.util.ArrayList;
import java.util.List;

/** The section 7 of the terms, and the promise 49: queries. */
final class QuerySentences extends SentenceTests {
    QuerySentences(Doc doc, Check check) {
        super(doc, check);
    }

    @Override
    void all() {
        tokens();
        grammar();
        depth();
        query();
    }

    /** The game of three players in its first trick: the player 1 led sky 2. */
    private static FadingTrumps three() {
        FadingTrumps x = game(THREE);
        x.play(1);
        return x;
    }

    private void holds(FadingTrumps x, String text, int due) {
        due("query of '" + text + "'", Check.query(x, text), due);
        due("the error position behind '" + text + "'", x.errorPosition(), NONE);
    }

    private void many(String test, int due) {
        holds(three(), "many " + test, due);
    }

    private void first(String test, int due) {
        holds(three(), "first " + test, due);
    }

    private void failsAs(String text, int code, int at) {
        FadingTrumps x = three();
        String before = stateOf(x);
        due("query of '" + text + "'", Check.query(x, text), HIDDEN - code);
        due("the error position of '" + text + "'", x.errorPosition(), at);
        same("nothing changes by '" + text + "'", stateOf(x), before);
    }

    // ---- 7 tokens

    private void tokens() {
        doc.term(7, "The text of a query has at most 200 bytes and the tokens of section 6;", this::tokensOfTexts);
        doc.term(7, "each of the bytes ( ) < = > is a token, too.", this::signs);
    }

    private void tokensOfTexts() {
        many("card<00000000000000000005", 5);
        holds(three(), " \nmany\n card\n<\n5\n ", 5);
        holds(three(), "many card<5and card>1or card=9", 4);
        holds(three(), "many 1=1", 16);
        failsAs("manycard<5", 1, 0);
        failsAs("many card<5or6=6and 1=1or7", 1, 26);
        failsAs("many card<5 andcard>1", 1, 12);
        failsAs("many ca rd<5", 1, 5);
        failsAs("many card<5 5", 1, 12);
        failsAs("many card;<5", 1, 9);
        failsAs("many card<5;", 1, 11);
        failsAs("many Card<5", 1, 5);
        String words = "many card<5 and suit<9 or rank<9 and holder<5 and played<9 or power<9 and not legal<9 or "
            + "trump<9";
        holds(three(), words, 16);
        eachLetter(words, this::failsAs);
        eachLetter("first card<5", this::failsAs);
        for (int sign = 0; sign < 256; sign++) {
            String byteOf = String.valueOf((char) sign);
            if (sign == 32 || sign == 10) {
                holds(three(), "many card<5" + byteOf, 5);
            } else if (sign >= '0' && sign <= '9') {
                holds(three(), "many card<1" + byteOf, Math.min(16, 10 + sign - '0'));
            } else {
                failsAs("many card<5" + byteOf, 1, 11);
                failsAs("many " + byteOf + " card<5", 1, sign == '(' ? 13 : 5);
            }
        }
    }

    private void signs() {
        holds(three(), "many(card<5)", 5);
        holds(three(), "many((card=5)or(card>5))", 11);
        holds(three(), "many ( card < 5 ) ", 5);
        holds(three(), "many not(card<5)and(card<9)", 4);
        failsAs("many card<=5", 1, 10);
        failsAs("many card>=5", 1, 10);
        failsAs("many card<>5", 1, 10);
        failsAs("many card==5", 1, 10);
        fails("blue 4 2 3(", 1, 10);
        fails("blue 4 2 3)", 1, 10);
        fails("blue 4 2 3<", 1, 10);
        fails("blue 4 2 3=", 1, 10);
        fails("blue 4 2 3>", 1, 10);
    }

    // ---- 7 grammar

    private void grammar() {
        doc.term(7, "query: ('many' | 'first') test", this::heads);
        doc.term(7, "test: conjunction ('or' conjunction)*", this::disjunctions);
        doc.term(7, "conjunction: factor ('and' factor)*", this::conjunctions);
        doc.term(7, "factor: 'not' factor | '(' test ')' | value ('<' | '=' | '>') value", this::factors);
        doc.term(7, "value: a number (0 to 9999), or one of these properties of a card: 'card' (its number), 'suit', "
            + "'rank', 'holder' (the player who has it in their hand; 9 if nobody), 'played' (1 or 0), 'power' (as "
            + "power), 'legal' (1 if the player whose turn it is may play it, otherwise 0), 'trump' (1 if its suit is "
            + "the trump, otherwise 0)", this::values);
    }

    private void heads() {
        many("card>12", 3);
        first("card>12", 13);
        failsAs("", 1, 0);
        failsAs(" \n", 1, 2);
        failsAs("card>12", 1, 0);
        failsAs("all card>12", 1, 0);
        failsAs("manys card>12", 1, 0);
        failsAs("firs card>12", 1, 0);
        failsAs("many", 1, 4);
        failsAs("first ", 1, 6);
        failsAs("many first card>12", 1, 5);
        failsAs("many many card>12", 1, 5);
        failsAs("many card>12 many", 1, 13);
        failsAs("not card>12", 1, 0);
    }

    private void disjunctions() {
        many("card=1 or card=2", 2);
        many("card=1 or card=1", 1);
        many("card=1 or card=2 or card=3 or card=4 or card=5", 5);
        many("card=99 or card=98", 0);
        many("card=99 or card=2", 1);
        many("card=2 or card=99", 1);
        many("1=1 or 1=1", 16);
        failsAs("many card=1 or", 1, 14);
        failsAs("many or card=1", 1, 5);
        failsAs("many card=1 or or card=1", 1, 15);
        failsAs("many card=1 card=1", 1, 12);
        StringBuilder b = new StringBuilder("many 0=1");
        while (b.length() < 188) {
            b.append("or 0=1");
        }
        holds(three(), b.toString(), 0);
        holds(three(), b + "or 1=1", 16);
    }

    private void conjunctions() {
        many("card>1 and card<4", 2);
        many("card>1 and card<4 and card=3", 1);
        many("card>1 and card<2", 0);
        // 'and' binds closer than 'or', on both sides
        many("card=1 or card=2 and card=3", 1);
        many("card=1 and card=2 or card=3", 1);
        many("card=1 or 1=1 and card=3 or card=5", 3);
        many("card=1 and 1=1 or card=3 and card=4 or card=5 and 1=1", 2);
        many("1=1 or 1=1 and 0=1", 16);
        many("0=1 and 1=1 or 1=1", 16);
        many("(1=1 or 1=1)and 0=1", 0);
        failsAs("many card=1 and", 1, 15);
        failsAs("many and card=1", 1, 5);
        failsAs("many card=1 and and card=1", 1, 16);
        failsAs("many card=1 and or card=1", 1, 16);
        failsAs("many card=1 or and card=1", 1, 15);
        StringBuilder b = new StringBuilder("many 1=1");
        while (b.length() < 187) {
            b.append("and 1=1");
        }
        holds(three(), b.toString(), 16);
        holds(three(), b + "and 0=1", 0);
        eachWay();
    }

    /** Every test of four factors, each true or false, with each row of 'and' and 'or'. */
    private void eachWay() {
        FadingTrumps x = new FadingTrumps();
        for (int bits = 0; bits < 16; bits++) {
            for (int ways = 0; ways < 8; ways++) {
                StringBuilder b = new StringBuilder("many ");
                boolean any = false;
                boolean all = true;
                for (int i = 0; i < 4; i++) {
                    if (i > 0) {
                        boolean or = (ways >> i - 1 & 1) != 0;
                        b.append(or ? "or " : "and ");
                        any |= or && all;
                        all |= or;
                    }
                    boolean holds = (bits >> i & 1) != 0;
                    b.append(holds ? "2>1 " : "2<1 ");
                    all &= holds;
                }
                holds(x, b.toString(), any || all ? 36 : 0);
            }
        }
    }

    private void factors() {
        many("not card=1", 15);
        many("not not card=1", 1);
        many("not card=1 and card<3", 2);
        many("not(card=1 and card<3)", 15);
        many("not card=1 or card=1", 16);
        many("not(card=1 or card=2)and card<4", 2);
        many("(card=1)", 1);
        many("card<1", 1);
        many("card=1", 1);
        many("card>1", 14);
        many("1<card", 14);
        many("1>card", 1);
        many("card<card", 0);
        many("card>card", 0);
        many("card=card", 16);
        many("2<2", 0);
        many("2>2", 0);
        many("2=2", 16);
        failsAs("many not", 1, 8);
        failsAs("many not and", 1, 9);
        failsAs("many(", 1, 5);
        failsAs("many()", 1, 5);
        failsAs("many(card=1", 1, 11);
        failsAs("many(card=1))", 1, 12);
        failsAs("many card=1)", 1, 11);
        failsAs("many(card)=1", 1, 9);
        failsAs("many card", 1, 9);
        failsAs("many card ", 1, 10);
        failsAs("many card=", 1, 10);
        failsAs("many =1", 1, 5);
        failsAs("many card=not 1", 1, 10);
        failsAs("many card=(1)", 1, 10);
        failsAs("many card 1", 1, 10);
        failsAs("many card=1=1", 1, 11);
        failsAs("many 1", 1, 6);
    }

    private void values() {
        many("0<1", 16);
        many("9999>9998", 16);
        many("card<9999", 16);
        many("card=0", 1);
        failsAs("many card<10000", 2, 10);
        failsAs("many 10000>card", 2, 5);
        failsAs("many card<010000", 2, 10);
        failsAs("many card<4294967297", 2, 10);
        failsAs("many card<18446744073709551617", 2, 10);
        failsAs("many card<-1", 1, 10);
        failsAs("many cards=1", 1, 5);
        failsAs("many led=1", 1, 5);
        failsAs("many blue=1", 1, 5);
        failsAs("many 10000 10000", 2, 5);
        failsAs("many 1 10000", 1, 7);
        allValues(three());
        FadingTrumps over = three();
        over.auto(52);
        allValues(over);
        many("holder=9", 11);
        many("played=1", 1);
        many("legal=1", 2);
        many("trump=1", 4);
        many("power=0", 8);
        allValues(new FadingTrumps());
        allValues(game("blue 13 4 13 rule 3 trump 3 glow 30 lead 3 seed 4;"));
    }

    /** Each property of each card is what the calls of the same name answer. */
    private void allValues(FadingTrumps x) {
        List<Integer> gone = new ArrayList<>();
        for (int i = 0; i < x.size(12); i++) {
            gone.add(x.played(i, 0));
        }
        for (int card = 0; card < 4 * x.size(0); card++) {
            String one = "first card=" + card + " and ";
            holds(x, one + "suit=" + x.suit(card), card);
            holds(x, one + "rank=" + x.rank(card), card);
            holds(x, one + "holder=" + (x.holder(card) == NONE ? 9 : x.holder(card)), card);
            holds(x, one + "played=" + (gone.contains(card) ? 1 : 0), card);
            holds(x, one + "power=" + x.power(card), card);
            holds(x, one + "legal=" + (x.isLegal(card) ? 1 : 0), card);
            holds(x, one + "trump=" + (x.suit(card) == x.size(4) ? 1 : 0), card);
            holds(x, one + "not(played<2 and legal<2 and trump<2)", NONE);
        }
    }

    // ---- 7 the depth

    private void depth() {
        doc.term(7, "Error codes are 1 and 2 of section 6, and 3 for a 'not' or '(' that would be the seventh one "
            + "open at the same time.", this::seventh);
        doc.term(7, "A 'not' is open until the end of its factor.", this::openNots);
    }

    /** Each row of six that are open at once, and each seventh one. */
    private void seventh() {
        for (int row = 0; row < 64; row++) {
            StringBuilder open = new StringBuilder();
            StringBuilder close = new StringBuilder();
            boolean turned = false;
            for (int i = 0; i < 6; i++) {
                boolean not = (row >> i & 1) != 0;
                open.append(not ? "not " : "( ");
                close.append(not ? "" : ")");
                turned ^= not;
            }
            int due = turned ? 15 : 1;
            many(open + "card=1" + close, due);
            many(open + "card=1" + close + " and " + open + "card=1" + close, due);
            failsAs("many " + open + "not card=1" + close, 3, 5 + open.length());
            failsAs("many " + open + "(card=1)" + close, 3, 5 + open.length());
            failsAs("many " + open + "not", 3, 5 + open.length());
            // a value is awaited there, so nothing may be opened
            failsAs("many " + open + "card=(", 1, 5 + open.length() + 5);
            failsAs("many " + open + "card not", 1, 5 + open.length() + 5);
            failsAs("many " + open + ")", 1, 5 + open.length());
            failsAs("many " + open + "card=10000", 2, 5 + open.length() + 5);
        }
        failsAs("many ((((((((((((", 3, 11);
        failsAs("many not not not not not not not not", 3, 29);
        failsAs("many 1=1 and 2=10000 and (((((((", 2, 15);
    }

    private void openNots() {
        many("not not not not not not card=1 and not not not not not not card=2", 0);
        many("not not not not not not card=1 or not not not not not not card=2", 2);
        many("(((((not card=1)))))and(((((not card=2)))))", 14);
        many("(((((not card=1 and not card=2)))))", 14);
        many("(((((not card=1 or(card=1))))))", 16);
        many("(((((card=1))or not card=2)or not card=3)or not(card=4))", 16);
        // the first bracket that is closed makes room for a 'not'
        many("((((((card=1)or not card=2)))))", 15);
        failsAs("many((((((card=1 or not card=2))))))", 3, 20);
        failsAs("many(((((not not card=1)))))", 3, 13);
        failsAs("many(((((not(card=1))))))", 3, 12);
        // 'not' and its bracket are both open until the bracket is closed
        failsAs("many not(not(not(card=1 and not card=2)))", 3, 28);
        failsAs("many not(not(not(card=1)and not(not card=2)))", 3, 32);
        many("not(not(not(card=1)and not(card=2)))", 14);
        many("not(not(not(card=1)))and not(not(not(card=2)))", 14);
        many("not(not not not(card=1))", 1);
        failsAs("many not(not not not(not card=1))", 3, 21);
    }

    // ---- 49 query

    private void query() {
        doc.promise(49, "Reads the first bytes of the buffer as a query and evaluates it for every card in ascending "
            + "order.", this::readsFirstBytes);
        doc.promise(49, "The buffer is empty afterwards, also after an error.", this::emptyAfterwards);
        doc.promise(49, "- `length`: number of bytes to read, at most 200", this::lengths);
        doc.promise(49, "Returns for 'many' the number of cards for which the test holds;", this::manyCards);
        doc.promise(49, "for 'first' the smallest such card, or NONE;", this::firstCards);
        doc.promise(49, "HIDDEN minus the error code if the text has an error.", this::errorResults);
        doc.promise(49, "Throws `IllegalArgumentException` if length is negative, greater than 200, or greater than "
            + "the number of bytes in the buffer (nothing changes)", this::wrongLengths);
    }

    private void readsFirstBytes() {
        FadingTrumps x = three();
        Check.feed(x, "many card<5 and card>12");
        due("the first bytes", x.query(11), 5);
        due("cards of the smallest row", Check.query(three(), "many 1=1"), 16);
        due("cards of the longest row", Check.query(game("blue 13 2 1;"), "many 1=1"), 52);
        due("the last card", Check.query(game("blue 13 2 1;"), "first card=51"), 51);
        due("no card behind it", Check.query(game("blue 13 2 1;"), "first card=52"), NONE);
        FadingTrumps y = three();
        y.saveSnapshot();
        changesNothing("a query", y, () -> due("a query", Check.query(y, "many legal=1 or power>3 or holder=9"), 14));
    }

    private void emptyAfterwards() {
        FadingTrumps x = three();
        Check.feed(x, "many card<5 and card>12 and card=8");
        due("a part of the buffer", x.query(11), 5);
        illegal("the rest has gone", () -> x.query(1));
        due("feed", x.feed(0, 0, 0, 0, 0), 20);
        due("an error", x.query(20), HIDDEN - 1);
        illegal("the buffer behind an error", () -> x.query(1));
        due("feed behind an error", x.feed(0, 0, 0, 0, 0), 20);
        due("query of nothing", x.query(0), HIDDEN - 1);
        due("feed behind a query of nothing", x.feed(0, 0, 0, 0, 0), 20);
    }

    private void lengths() {
        FadingTrumps x = three();
        due("query(0) of an empty buffer", x.query(0), HIDDEN - 1);
        due("its place", x.errorPosition(), 0);
        String longest = "many 1=1" + " ".repeat(185) + "and 0=1";
        due("the length", longest.length(), 200);
        due("200 bytes", Check.query(x, longest), 0);
        Check.feed(x, longest);
        due("199 of them", x.query(199), HIDDEN - 1);
        due("its place", x.errorPosition(), 199);
        Check.feed(x, longest);
        due("8 of them", x.query(8), 16);
        Check.feed(x, longest + "    ");
        due("200 of 220", x.query(200), 0);
        Check.feed(x, "many card<12        ");
        due("a number is cut", x.query(11), 1);
        Check.feed(x, "many card<12        ");
        due("all of the buffer", x.query(20), 12);
        for (int i = 0; i < 24; i++) {
            x.feed(0x20202020, 0x20202020, 0x20202020, 0x20202020, 0x20202020);
        }
        Check.feed(x, "x");
        due("200 of 500", x.query(200), HIDDEN - 1);
        due("its place", x.errorPosition(), 200);
    }

    private void manyCards() {
        many("card<0", 0);
        many("card<1", 1);
        many("card<16", 16);
        many("card>14", 1);
        many("card>15", 0);
        due("all of the longest row", Check.query(game("blue 13 4 13;"), "many holder<4"), 52);
        due("none of it", Check.query(game("blue 13 4 13;"), "many holder=9"), 0);
    }

    private void firstCards() {
        first("1=1", 0);
        first("card>14", 15);
        first("card>15", NONE);
        first("card=9 or card=4 or card=12", 4);
        first("0=1", NONE);
        first("not card<7", 7);
    }

    private void errorResults() {
        failsAs("many card<", 1, 10);
        failsAs("first card<", 1, 11);
        failsAs("many card<99999", 2, 10);
        failsAs("first card<99999", 2, 11);
        failsAs("many(((((((card<5)))))))", 3, 10);
        failsAs("first(((((((card<5)))))))", 3, 11);
    }

    private void wrongLengths() {
        FadingTrumps x = three();
        Check.query(x, "many");
        due("an error position", x.errorPosition(), 4);
        illegal("query(1) of an empty buffer", () -> x.query(1));
        Check.feed(x, "many card<5");
        for (int wrong : new int[] {-1, -2, 21, 22, 200, 201, MIN, MAX}) {
            changesNothing("query(" + wrong + ")", x, () -> illegal("query(" + wrong + ")", () -> x.query(wrong)));
        }
        due("the buffer has not changed", x.feed(0, 0, 0, 0, 0), 40);
        due("nor its bytes", x.query(20), 5);
        for (int i = 0; i < 25; i++) {
            x.feed(0x20202020, 0x20202020, 0x20202020, 0x20202020, 0x20202020);
        }
        for (int wrong : new int[] {-1, 201, 202, 220, 500, 501}) {
            illegal("query(" + wrong + ") of a full buffer", () -> x.query(wrong));
        }
        due("the full buffer has not changed", x.feed(0, 0, 0, 0, 0), NONE);
        due("query(200)", x.query(200), HIDDEN - 1);
    }
}
