/** The program that README.md shows; ReadmeTest runs it. */
public final class Example {
    public static void main(String[] args) {
        FadingTrumps game = new FadingTrumps();
        int length = put(game, "blue 9 3 5 trump 2 glow 10 fade 3 revive lead 1 seed 77; hand 0 18 26; tell 1 2;");
        System.out.println("cards in hands: " + game.load(length));
        System.out.println("the hand of the player 1: " + hand(game, 1));

        int card = game.inHand(1, 0);
        System.out.println("the player 1 plays the card " + card + ": " + game.play(card));
        System.out.println("two more cards are played: " + game.auto(2));
        System.out.println("who has the trick: " + game.trick(0, 1) + ", the glow now: " + game.size(5));

        length = put(game, "many holder=1 and not (suit=2 or rank<5)");
        System.out.println("such cards: " + game.query(length));
        System.out.println("undone; what can still be undone: " + game.undo());

        length = put(game, "blue 9 3 13;");
        System.out.println("39 of 36 cards: " + game.load(length) + " at " + game.errorPosition());
    }

    /** Feeds a text with blanks behind it, as 20 bytes are fed at a time; answers its length. */
    private static int put(FadingTrumps game, String text) {
        for (int from = 0; from < text.length(); from += 20) {
            int[] words = new int[5];
            for (int i = 0; i < 20; i++) {
                int sign = from + i < text.length() ? text.charAt(from + i) : ' ';
                words[i / 4] = words[i / 4] << 8 | sign;
            }
            game.feed(words[0], words[1], words[2], words[3], words[4]);
        }
        return text.length();
    }

    private static String hand(FadingTrumps game, int player) {
        StringBuilder text = new StringBuilder();
        int count = game.format(player);
        for (int i = 0; i < count; i++) {
            text.append((char) game.formattedByte(i));
        }
        return text.toString();
    }
}
