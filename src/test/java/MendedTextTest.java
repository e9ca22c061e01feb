/** Promises 26 to 28: the text MENDED, its bytes, what is LOST in it. */
public final class MendedTextTest {
    private static final int NONE = MendedLetters.NONE;

    public static void main(String[] args) {
        promise26();
        promise26Lost();
        promise26Limits();
        promise27();
        promise28();
        Check.end("MendedTextTest");
    }

    private static void text(MendedLetters x, String text, int prices, int lost, int outside) {
        Check.is("the text", Check.textOf(x), text);
        Check.is("text(0)", x.text(0), text.length());
        Check.is("text(1)", x.text(1), prices);
        Check.is("text(2)", x.text(2), lost);
        Check.is("text(3)", x.text(3), outside);
    }

    private static void promise26() {
        MendedLetters x = Check.with("cat 1; co-op 2;", "", " \n cat  z?-q- \n co-\nop\n\nx-\ny[z1]\n ");
        text(x, "cat z?-q-\nco-op\nxy", 1 + 30 + 3 + 26, 0, 2);
        x.set(0, 0);
        x.set(1, 0);
        text(x, "cat z?-q-\ncoop\nxy", 0, 0, 4);
        x.weigh(0, 0);
        text(x, "cat z?-q-\ncoop\nxy", 0, 0, 3);
        Check.illegal(x, "text(4)", () -> x.text(4));
        Check.illegal(x, "text(-1)", () -> x.text(-1));
        Check.reading(x, "");
        text(x, "", 0, 0, 0);
        Check.reading(x, "q \n\n q q\nq");
        text(x, "q\nq q\nq", 0, 0, 4);
    }

    private static void promise26Lost() {
        MendedLetters x = Check.with("ab; a 4; b 4;", "", "a\nb");
        text(x, "a\nb", 8, 0, 0);
        x.set(5, 7);
        text(x, "ab", 7, 1, 0);
        Check.reading(x, "a\nb\na\nb c\na");
        text(x, "ab\nab c\na", 7 + 7 + 22 + 4, 2, 1);
        Check.reading(x, "a b\n a\n\nb");
        text(x, "a b\na\nb", 16, 0, 0);
        MendedLetters y = Check.with("ab; bc;", "", "a\nb\nc");
        text(y, "a\nbc", 30, 1, 1);
        y.weigh(1, 1);
        text(y, "ab\nc", 30, 1, 1);
        MendedLetters z = Check.with("m; a-b; cd;", "rn=m 2;", "r\nn a-\n-b c-\n-d");
        text(z, "m a-b cd", 10 + 11 + 14, 3, 0);
    }

    private static void promise26Limits() {
        MendedLetters x = Check.with("ab 30;", "", "a\nb");
        text(x, "a\nb", 44, 0, 2);
        x.weigh(0, 24);
        text(x, "ab", 32, 1, 0);
        String eleven = "-".repeat(11);
        MendedLetters y = Check.with("ab;", "", eleven + "a\nb" + eleven);
        text(y, "ab", 66 + 8, 1, 0);
        Check.reading(y, eleven + "a\nb" + eleven + "-");
        y.set(3, 1);
        text(y, eleven + "a\nb" + eleven + "-", 44 + 46, 0, 2);
        MendedLetters z = Check.with("abcdefghijkl;", "a=abc 1;d=def 1;g=ghi 1;j=jkl 1;", "adgj ".repeat(40));
        text(z, "abcdefghijkl ".repeat(40).trim(), 160, 0, 0);
        Check.reading(z, ("y".repeat(24) + " ").repeat(15) + "y".repeat(24));
        text(z, ("y".repeat(24) + " ").repeat(15) + "y".repeat(24), 16 * 68, 0, 16);
    }

    private static void promise27() {
        MendedLetters x = Check.with("cat;", "", "cat \n?");
        int[] due = {'c', 'a', 't', 10, '?', NONE, NONE};
        for (int k = 0; k < due.length; k++) {
            Check.is("at(" + k + ")", x.at(k), due[k]);
        }
        Check.is("at(-1)", x.at(-1), NONE);
        Check.is("at(least)", x.at(Integer.MIN_VALUE), NONE);
        Check.is("at(most)", x.at(Integer.MAX_VALUE), NONE);
        Check.reading(x, "cat ?");
        Check.is("a blank", x.at(3), 32);
        Check.is("refusals", x.status(0) + x.status(1), 0);
    }

    private static void promise28() {
        MendedLetters x = Check.with("ab; cd;", "", "x\na\nb\nc\nd");
        boolean[] next = {false, true, false, true, false};
        boolean[] ahead = {false, false, true, false, true};
        for (int token = 0; token < 5; token++) {
            Check.is("lost(" + token + ", 0)", x.lost(token, 0), next[token]);
            Check.is("lost(" + token + ", 1)", x.lost(token, 1), ahead[token]);
        }
        Check.lexicon(x, "bc; xa;");
        // xa and bc and d alone cost 38, x and ab and cd alike: the first TOKEN is alone
        Check.is("lost(0, 0)", x.lost(0, 0), false);
        Check.is("lost(1, 0)", x.lost(1, 0), true);
        Check.is("lost(2, 0) is inside of one", x.lost(2, 0), false);
        x.set(5, 99);
        Check.is("lost(1, 0)", x.lost(1, 0), false);
        Check.is("lost(2, 1)", x.lost(2, 1), false);
        Check.illegal(x, "lost(0, 2)", () -> x.lost(0, 2) ? 1 : 0);
        Check.illegal(x, "lost(0, -1)", () -> x.lost(0, -1) ? 1 : 0);
        Check.missing(x, "lost(5, 0)", () -> x.lost(5, 0) ? 1 : 0);
        Check.missing(x, "lost(-1, 2)", () -> x.lost(-1, 2) ? 1 : 0);
    }
}
