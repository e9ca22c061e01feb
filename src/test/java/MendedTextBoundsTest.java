/** The boundary cases of the text MENDED (promises 26 to 28). */
public final class MendedTextBoundsTest {
    private static final int NONE = MendedLetters.NONE;

    public static void main(String[] args) {
        noTokens();
        oneNewlineAndNoBlanks();
        twentyFourCells();
        mendedByAWord();
        lostMore();
        alikeWays();
        chains();
        keptAsRead();
        between();
        longestTexts();
        dearestText();
        textBounds();
        atBounds();
        lostBounds();
        Check.end("MendedTextBoundsTest");
    }

    private static void text(MendedLetters x, String text, int prices, int lost, int outside) {
        Check.is("the text", Check.textOf(x), text);
        Check.is("text(0) of " + text, x.text(0), text.length());
        Check.is("text(1) of " + text, x.text(1), prices);
        Check.is("text(2) of " + text, x.text(2), lost);
        Check.is("text(3) of " + text, x.text(3), outside);
        Check.is("at behind " + text, x.at(text.length()), NONE);
        Check.is("at ahead of " + text, x.at(-1), NONE);
    }

    private static void noTokens() {
        text(new MendedLetters(), "", 0, 0, 0);
        MendedLetters x = Check.with("a;", "a=b;", "a");
        text(x, "a", 0, 0, 0);
        for (String nothing : new String[] {"", " ", "\n", " \n "}) {
            Check.reading(x, nothing);
            text(x, "", 0, 0, 0);
        }
        x.reading(0);
        text(x, "", 0, 0, 0);
    }

    /** "Two TOKENS with just one NEWLINE (and no blanks) between may be LOST". */
    private static void oneNewlineAndNoBlanks() {
        MendedLetters x = Check.with("ab;", "", "");
        Check.reading(x, "a\nb");
        text(x, "ab", 8, 1, 0);
        for (String gap : new String[] {" ", "  ", "\n\n", " \n", "\n ", " \n ", "\n\n\n"}) {
            Check.reading(x, "a" + gap + "b");
            text(x, gap.contains("\n") ? "a\nb" : "a b", 44, 0, 2);
            Check.is("lost(0, 0)", x.lost(0, 0), false);
            Check.is("lost(1, 1)", x.lost(1, 1), false);
        }
        // what stands ahead of the first and behind the second does not matter
        Check.reading(x, "\n \na\nb \n");
        text(x, "ab", 8, 1, 0);
        // the last one has none behind it
        Check.reading(x, "b\na\n");
        text(x, "b\na", 44, 0, 2);
    }

    /** "one TOKEN of the CELLS of both (24 at most)". */
    private static void twentyFourCells() {
        MendedLetters x = Check.with("ab;", "", "");
        x.set(3, 0);
        int[][] sizes = {{1, 1}, {12, 11}, {11, 12}, {12, 12}, {23, 1}, {1, 23}, {22, 2}, {12, 13}, {13, 12}, {24, 1},
            {1, 24}, {24, 24}, {2, 23}};
        for (int[] one : sizes) {
            String first = "-".repeat(one[0] - 1) + "a";
            String second = "b" + "-".repeat(one[1] - 1);
            Check.reading(x, first + "\n" + second);
            int cells = one[0] + one[1];
            if (cells <= 24) {
                text(x, "ab", 8, 1, 0);
            } else {
                text(x, first + "\n" + second, 40 + 2 * cells, 0, 2);
            }
        }
        // a BREAK is one CELL, a letter with others is one
        Check.reading(x, "-\na".repeat(1) + "-".repeat(10) + "\n" + "-".repeat(11) + "b[c9]");
        text(x, "ab", 8, 1, 0);
        Check.reading(x, "-\na".repeat(1) + "-".repeat(10) + "\n" + "-".repeat(12) + "b[c9]");
        Check.is("LOST of 25", x.text(2), 0);
    }

    /** "if that is MENDED by a WORD": its PRICE is not above that of OUTSIDE of the CELLS of both. */
    private static void mendedByAWord() {
        MendedLetters x = Check.with("ab;", "", "a\nb");
        x.set(5, 0);
        int[] weights = {23, 24, 25};
        for (int weight : weights) {
            x.weigh(0, weight);
            if (weight <= 24) {
                text(x, "ab", weight, 1, 0);
            } else {
                text(x, "a\nb", 44, 0, 2);
            }
        }
        Check.reading(x, "a\nb-");
        x.set(3, 0);
        for (int weight = 25; weight <= 27; weight++) {
            x.weigh(0, weight);
            if (weight <= 26) {
                text(x, "ab", weight, 1, 0);
            } else {
                text(x, "a\nb-", 46, 0, 2);
            }
        }
        Check.reading(x, "a\nb");
        // LOST itself does not count there
        x.set(5, 19);
        x.weigh(0, 24);
        text(x, "ab", 43, 1, 0);
        x.forget();
        text(x, "a\nb", 44, 0, 2);
        Check.lexicon(x, "abc; a-b;");
        text(x, "a\nb", 44, 0, 2);
    }

    /** "at its PRICE and LOST (8) more", "the least PRICES together; of several .. the first TOKEN that differs is alone". */
    private static void lostMore() {
        MendedLetters x = Check.with("ab 1; a 4; b 4;", "", "a\nb");
        // 8 alone, 1 and LOST together
        int[] costs = {0, 6, 7, 8, 99};
        for (int cost : costs) {
            x.set(5, cost);
            if (cost < 7) {
                text(x, "ab", 1 + cost, 1, 0);
            } else {
                text(x, "a\nb", 8, 0, 0);
            }
        }
    }

    private static void alikeWays() {
        MendedLetters x = Check.with("ab; bc;", "", "a\nb\nc");
        // ab and c, or a and bc: both 30
        text(x, "a\nbc", 30, 1, 1);
        Check.is("lost(1, 0)", x.lost(1, 0), true);
        x.weigh(1, 1);
        text(x, "ab\nc", 30, 1, 1);
        x.weigh(0, 1);
        text(x, "a\nbc", 31, 1, 1);
        x.weigh(1, 0);
        text(x, "a\nbc", 30, 1, 1);
    }

    /** A TOKEN is LOST with one other at most. */
    private static void chains() {
        MendedLetters x = Check.with("aa;", "", "a\na\na\na");
        text(x, "aa\naa", 16, 2, 0);
        boolean[] next = {true, false, true, false};
        for (int token = 0; token < 4; token++) {
            Check.is("lost(" + token + ", 0)", x.lost(token, 0), next[token]);
            Check.is("lost(" + token + ", 1)", x.lost(token, 1), !next[token]);
        }
        Check.reading(x, "a\na\na");
        text(x, "a\naa", 30, 1, 1);
        Check.lexicon(x, "aaa;");
        text(x, "a\naa", 30, 1, 1);
        Check.reading(x, "a\n".repeat(40));
        text(x, "aa\n".repeat(20).trim(), 160, 20, 0);
        Check.reading(x, "a\n".repeat(39));
        text(x, ("a\n" + "aa\n".repeat(19)).trim(), 22 + 152, 19, 1);
        Check.is("lost(0, 0)", x.lost(0, 0), false);
        Check.is("lost(37, 0)", x.lost(37, 0), true);
        Check.is("lost(38, 1)", x.lost(38, 1), true);
    }

    /** "letters themselves, "?" as it is, "-" as "-", BREAKS as nothing". */
    private static void keptAsRead() {
        MendedLetters x = Check.with("", "q=z;", "a[b1]q?-");
        text(x, "aq?-", 28, 0, 1);
        Check.reading(x, "a-\nb-\n?");
        text(x, "ab?", 30, 0, 1);
        Check.reading(x, "-\na");
        text(x, "a", 24, 0, 1);
        Check.reading(x, "a-\n-b");
        text(x, "a-\n-b", 48, 0, 2);
    }

    /** "Between what is MENDED stands one blank, or one NEWLINE, if there was any between; none behind the last." */
    private static void between() {
        MendedLetters x = Check.with("a;", "", "");
        String[] gaps = {" ", "   ", "\n", "\n\n\n", " \n", "\n ", "  \n  \n "};
        for (String gap : gaps) {
            Check.reading(x, gap + "a" + gap + "a" + gap);
            text(x, gap.contains("\n") ? "a\na" : "a a", 0, 0, 0);
        }
        // behind a BREAK's TOKEN there is what is behind it, not what is in it
        Check.reading(x, "q-\nq a");
        text(x, "qq a", 26, 0, 1);
        // what is behind the second of two that are LOST, not what was between them
        MendedLetters y = Check.with("ab;", "", "a\nb c\na\nb\n\nd");
        text(y, "ab c\nab\nd", 8 + 22 + 8 + 22, 2, 2);
    }

    /** The longest texts: 400 bytes kept as they are, and forty WORDS of twelve signs. */
    private static void longestTexts() {
        MendedLetters x = new MendedLetters();
        String kept = ("q".repeat(24) + " ").repeat(15) + "q".repeat(24);
        Check.reading(x, kept);
        text(x, kept, 16 * 68, 0, 16);
        Check.reading(x, kept + "\n");
        text(x, kept, 16 * 68, 0, 16);
        MendedLetters y = Check.with("abcdefghijkl;", "a=abc 1;d=def 1;g=ghi 1;j=jkl 1;", "adgj\n\n".repeat(40));
        text(y, "abcdefghijkl\n".repeat(40).trim(), 160, 0, 0);
        Check.is("the last byte", y.at(40 * 13 - 2), 'l');
        Check.is("behind it", y.at(40 * 13 - 1), NONE);
    }

    private static void dearestText() {
        MendedLetters x = new MendedLetters();
        x.set(0, 999);
        x.set(1, 99);
        Check.reading(x, "q ".repeat(40));
        Check.is("text(1)", x.text(1), 40 * 1098);
        Check.reading(x, ("q".repeat(9) + " ").repeat(40));
        Check.is("text(1)", x.text(1), 40 * (999 + 9 * 99));
        Check.is("text(3)", x.text(3), 40);
        x.set(0, 0);
        x.set(1, 0);
        Check.is("text(1)", x.text(1), 0);
        Check.is("text(3)", x.text(3), 40);
    }

    private static void textBounds() {
        MendedLetters none = new MendedLetters();
        Check.arguments(none, "text(v)", v -> none.text(v), 0, 3);
        MendedLetters x = Check.with("a;", "", "a q");
        Check.arguments(x, "text(v)", v -> x.text(v), 0, 3);
        Check.is("no other refusals", x.status(0), 0);
    }

    /** "NONE: there are not so many, or k is below 0." */
    private static void atBounds() {
        MendedLetters x = Check.with("abc;", "", "abc q");
        int[] due = {'a', 'b', 'c', ' ', 'q'};
        for (int k = 0; k < 5; k++) {
            Check.is("at(" + k + ")", x.at(k), due[k]);
        }
        for (int k : new int[] {-1, -2, 5, 6, 400, 999, 1000, 1001, Integer.MIN_VALUE, Integer.MAX_VALUE, 65536, -65536}) {
            Check.is("at(" + k + ")", x.at(k), NONE);
        }
        Check.reading(x, "q");
        Check.is("at(1) of a shorter one", x.at(1), NONE);
        Check.is("no refusals", x.status(0) + x.status(1), 0);
    }

    private static void lostBounds() {
        MendedLetters x = Check.with("ab;", "", "a\nb");
        Check.elements(x, "lost(v, 0)", v -> x.lost(v, 0) ? 1 : 0, 0, 1);
        Check.elements(x, "lost(v, 1)", v -> x.lost(v, 1) ? 1 : 0, 0, 1);
        Check.arguments(x, "lost(0, v)", v -> x.lost(0, v) ? 1 : 0, 0, 1);
        Check.arguments(x, "lost(1, v)", v -> x.lost(1, v) ? 1 : 0, 0, 1);
        Check.is("the first with the one ahead", x.lost(0, 1), false);
        Check.is("the first with the next", x.lost(0, 0), true);
        Check.is("the last with the one ahead", x.lost(1, 1), true);
        Check.is("the last with the next", x.lost(1, 0), false);
        Check.reading(x, "a");
        Check.is("the only one", x.lost(0, 0), false);
        Check.is("the only one", x.lost(0, 1), false);
    }
}
