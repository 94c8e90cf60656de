import java.util.NoSuchElementException;

/** Counts the answers that are as due and tells those that are not. */
final class Check {
    static final long NO_SUCH = Long.MIN_VALUE;
    static final long ILLEGAL = Long.MIN_VALUE + 1;
    static final long OTHER = Long.MIN_VALUE + 2;

    interface Call {
        long answer();
    }

    private int passed;
    private int failed;

    /** The answer of a call, or a sign for the exception that it throws. */
    static long of(Call call) {
        try {
            return call.answer();
        } catch (NoSuchElementException e) {
            return e.getClass() == NoSuchElementException.class ? NO_SUCH : OTHER;
        } catch (IllegalArgumentException e) {
            return e.getClass() == IllegalArgumentException.class ? ILLEGAL : OTHER;
        } catch (RuntimeException e) {
            e.printStackTrace(System.out);
            return OTHER;
        }
    }

    static long flag(boolean b) {
        return b ? 1 : 0;
    }

    private static String shown(long answer) {
        return answer == NO_SUCH ? "NoSuchElementException" : answer == ILLEGAL ? "IllegalArgumentException"
            : answer == OTHER ? "another exception" : String.valueOf(answer);
    }

    void due(String what, long got, long want) {
        if (got == want) {
            passed++;
            return;
        }
        failed++;
        System.out.println(what + " answered " + shown(got) + ", due is " + shown(want));
    }

    void due(String what, long want, Call call) {
        due(what, of(call), want);
    }

    void noSuch(String what, Call call) {
        due(what, of(call), NO_SUCH);
    }

    void illegal(String what, Call call) {
        due(what, of(call), ILLEGAL);
    }

    boolean hasFailed() {
        return failed > 0;
    }

    int passed() {
        return passed;
    }

    int failed() {
        return failed;
    }

    void end() {
        System.out.println(passed + " passed, " + failed + " failed");
        if (failed > 0 || passed == 0) {
            System.exit(1);
        }
    }

    // ---- texts for an object

    /** Feeds a text, filled up with blanks to 20 bytes at a time. */
    static int feed(FadingTrumps x, String text) {
        int count = 0;
        for (int i = 0; i == 0 || i < text.length(); i += 20) {
            int[] w = words(text, i);
            count = x.feed(w[0], w[1], w[2], w[3], w[4]);
        }
        return count;
    }

    static int[] words(String text, int from) {
        int[] words = new int[5];
        for (int i = 0; i < 20; i++) {
            int sign = from + i < text.length() ? text.charAt(from + i) & 255 : ' ';
            words[i / 4] = words[i / 4] << 8 | sign;
        }
        return words;
    }

    static int load(FadingTrumps x, String text) {
        feed(x, text);
        return x.load(text.length());
    }

    static int query(FadingTrumps x, String text) {
        feed(x, text);
        return x.query(text.length());
    }

    static FadingTrumps loaded(String text) {
        FadingTrumps x = new FadingTrumps();
        int answer = load(x, text);
        if (answer < 0) {
            throw new IllegalStateException("the text " + text + " answered " + answer + " at " + x.errorPosition());
        }
        return x;
    }

    static String format(FadingTrumps x, int player) {
        int count = x.format(player);
        return shownText(x, count);
    }

    static String shownText(FadingTrumps x, int count) {
        StringBuilder b = new StringBuilder();
        for (int i = 0; i < count; i++) {
            b.append((char) x.formattedByte(i));
        }
        return b.toString();
    }
}
