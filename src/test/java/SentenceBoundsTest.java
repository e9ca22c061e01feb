/** The boundary cases of FOLLOWS and of THE SENTENCE (promises 7, 32 to 34). */
public final class SentenceBoundsTest {
    private static final int NONE = MendedLetters.NONE;

    public static void main(String[] args) {
        numbers();
        oneBlankAtLeast();
        sixtyFollows();
        toldTwice();
        noWord();
        inPlaceOfThose();
        dearBounds();
        noTokens();
        oneToken();
        fourBest();
        notAboveOutside();
        besideOutside();
        alikeOnes();
        noneLost();
        otherThanMended();
        fortyTokens();
        sentenceBounds();
        saidBounds();
        Check.end("SentenceBoundsTest");
    }

    private static MendedLetters two() {
        return Check.with("a; b;", "", "");
    }

    /** "NUMBER 0 to 99". */
    private static void numbers() {
        MendedLetters x = two();
        x.set(6, 50);
        for (int number : new int[] {0, 1, 98, 99}) {
            Check.fine(x, "follows", "a b " + number + ";", 1);
            Check.is("dear", x.dear(0, 1), number);
            Check.is("the other way round", x.dear(1, 0), 50);
        }
        Check.fault(x, "follows", "a b 100;", 2, 4);
        Check.fault(x, "follows", "a b100;", 2, 3);
        Check.fault(x, "follows", "a b;", 1, 3);
        Check.fault(x, "follows", "a b ;", 1, 4);
        Check.fault(x, "follows", "a b -1;", 1, 4);
        Check.fault(x, "follows", "a b 1 2;", 1, 6);
        Check.is("it stays", x.dear(0, 1), 99);
    }

    /** "blanks as in a LEXICON, one at least between the two WORDS". */
    private static void oneBlankAtLeast() {
        MendedLetters x = two();
        Check.fine(x, "follows", "a b1;b a2;", 2);
        Check.fine(x, "follows", "   a   b   1   ;   b   a   2   ;   ", 2);
        Check.fault(x, "follows", "ab 1;", 5, 0);
        Check.fault(x, "follows", "a\nb 1;", 1, 1);
        Check.fault(x, "follows", "a=b 1;", 1, 1);
        Check.fault(x, "follows", "a b\n1;", 1, 3);
        Check.fault(x, "follows", "a;", 1, 1);
        Check.fault(x, "follows", "a 1;", 1, 2);
        Check.fault(x, "follows", "a b a 1;", 1, 4);
        Check.fault(x, "follows", "a", 1, 1);
        Check.fault(x, "follows", "a ", 1, 2);
        Check.fault(x, "follows", "a b", 1, 3);
    }

    /** "60 at most", "3 (a 61st, at its first byte)". */
    private static void sixtyFollows() {
        MendedLetters x = two();
        Check.fine(x, "follows", "a b1;".repeat(59), 59);
        Check.fine(x, "follows", "a b1;".repeat(59) + "b a7;", 60);
        Check.is("the 60th", x.dear(1, 0), 7);
        Check.fine(x, "follows", "a b1;".repeat(60) + "  ", 60);
        Check.fault(x, "follows", "a b1;".repeat(61), 3, 300);
        Check.fault(x, "follows", "a b1;".repeat(60) + "   b a7;", 3, 303);
        Check.fault(x, "follows", "a b1;".repeat(60) + "a", 3, 300);
        Check.fault(x, "follows", "a b1;".repeat(60) + "q q 100;", 3, 300);
        Check.fault(x, "follows", "a b1;".repeat(60) + "-", 1, 300);
        Check.fault(x, "follows", "a b1;".repeat(60) + "1", 1, 300);
        Check.is("they stay", x.dear(0, 1), 1);
        // sixty unlike ones
        MendedLetters y = Check.with("a;b;c;d;e;f;g;h;", "", "");
        StringBuilder text = new StringBuilder();
        for (int i = 0; i < 60; i++) {
            text.append((char) ('a' + i / 8)).append(' ').append((char) ('a' + i % 8)).append(i + 10).append(';');
        }
        Check.fine(y, "follows", text.toString(), 60);
        for (int i = 0; i < 64; i++) {
            Check.is("dear " + i, y.dear(i / 8, i % 8), i < 60 ? i + 10 : 0);
        }
    }

    /** "what is told twice: the last counts". */
    private static void toldTwice() {
        MendedLetters x = two();
        Check.fine(x, "follows", "a b 9; b a 3; a b 0;", 3);
        Check.is("dear", x.dear(0, 1), 0);
        Check.is("dear", x.dear(1, 0), 3);
        Check.fine(x, "follows", "a b 0; a b 99; a b 9;", 3);
        Check.is("dear", x.dear(0, 1), 9);
        Check.fine(x, "follows", "a a 4; a a 5;", 2);
        Check.is("dear", x.dear(0, 0), 5);
        Check.fault(x, "follows", "a a 6; a a 7; a a 100;", 2, 18);
        Check.is("dear behind a FAULT", x.dear(0, 0), 5);
    }

    /** "5 (at its first byte) letters and "-" one behind the other, a letter first, however many, that are no WORD". */
    private static void noWord() {
        MendedLetters x = Check.with("ab; abcdefghijkl; a-b;", "", "");
        Check.fine(x, "follows", "ab abcdefghijkl 1;abcdefghijkl a-b 2;a-b ab 3;", 3);
        String[] none = {"a", "abc", "a-", "a-b-", "a--b", "ab-", "abcdefghijk", "abcdefghijklm", "z", "b".repeat(300), "a-".repeat(100)};
        for (String one : none) {
            Check.fault(x, "follows", one + " ab 1;", 5, 0);
            Check.fault(x, "follows", "  " + one, 5, 2);
            Check.fault(x, "follows", "ab " + one + " 1;", 5, 3);
            Check.fault(x, "follows", "ab   " + one, 5, 5);
            Check.fault(x, "follows", one + "!", 5, 0);
        }
        Check.fault(x, "follows", "-ab ab 1;", 1, 0);
        Check.fault(x, "follows", "ab -ab 1;", 1, 3);
        Check.fault(x, "follows", "Ab ab 1;", 1, 0);
        Check.fault(x, "follows", "aB ab 1;", 5, 0);
        MendedLetters y = new MendedLetters();
        Check.fault(y, "follows", "a a 1;", 5, 0);
        Check.fine(y, "follows", "", 0);
        // WORDS that are told later on
        Check.fault(y, "follows", "c c 1;", 5, 0);
        Check.lexicon(y, "c;");
        Check.fine(y, "follows", "c c 1;", 1);
    }

    /** "in place of those there are: how many are told". */
    private static void inPlaceOfThose() {
        MendedLetters x = two();
        Check.fine(x, "follows", "a b 5; b b 6;", 2);
        Check.fine(x, "follows", "b a 7;", 1);
        Check.is("dear", x.dear(0, 1), 0);
        Check.is("dear", x.dear(1, 1), 0);
        Check.is("dear", x.dear(1, 0), 7);
        Check.lexicon(x, "c;");
        Check.is("WORDS more, and they stay", x.dear(1, 0), 7);
        Check.is("STRANGE of the new one", x.dear(2, 0), 0);
        x.shapes(0);
        x.reading(0);
        Check.is("SHAPES, a READING, and they stay", x.dear(1, 0), 7);
        Check.fine(x, "follows", "  ", 0);
        Check.is("dear", x.dear(1, 0), 0);
    }

    /** "of all others STRANGE (0 at first)". */
    private static void dearBounds() {
        MendedLetters none = new MendedLetters();
        Check.missing(none, "dear(0, 0)", () -> none.dear(0, 0));
        MendedLetters x = two();
        Check.elements(x, "dear(v, 0)", v -> x.dear(v, 0), 0, 1);
        Check.elements(x, "dear(0, v)", v -> x.dear(0, v), 0, 1);
        Check.follows(x, "a b 0;");
        for (int strange : new int[] {0, 1, 99}) {
            x.set(6, strange);
            Check.is("dear of one told", x.dear(0, 1), 0);
            Check.is("dear of another", x.dear(1, 0), strange);
            Check.is("dear behind itself", x.dear(0, 0), strange);
        }
        Check.is("no other refusals", x.status(1), 0);
    }

    private static void sentence(MendedLetters x, int cost, int otherwise, int outside, int... said) {
        Check.is("sentence(0)", x.sentence(0), cost);
        Check.is("sentence(1)", x.sentence(1), otherwise);
        Check.is("sentence(2)", x.sentence(2), outside);
        for (int token = 0; token < said.length; token++) {
            Check.is("said(" + token + ")", x.said(token), said[token]);
        }
    }

    private static void noTokens() {
        sentence(new MendedLetters(), 0, 0, 0);
        MendedLetters x = Check.with("a;", "", "q");
        sentence(x, 22, 0, 1, NONE);
        for (String nothing : new String[] {"", " ", "\n"}) {
            Check.reading(x, nothing);
            sentence(x, 0, 0, 0);
        }
    }

    private static void oneToken() {
        MendedLetters x = Check.with("a 3; b 3;", "", "a[b1]");
        x.set(6, 99);
        sentence(x, 3, 0, 0, 0);
        x.weigh(0, 99);
        sentence(x, 4, 0, 0, 1);
        x.weigh(1, 99);
        sentence(x, 22, 0, 1, NONE);
        x.forget();
        sentence(x, 22, 0, 1, NONE);
    }

    /** "each as one of its 4 best WORDS": the fourth may be, the fifth may not. */
    private static void fourBest() {
        for (int cheap = 0; cheap < 5; cheap++) {
            MendedLetters x = Check.with("a; b 1; c 2; d 3; e 4; xx;", "", "xx ?");
            x.set(6, 90);
            Check.follows(x, "xx " + (char) ('a' + cheap) + " 0;");
            // xx and OUTSIDE cost 22, OUTSIDE and a 28
            if (cheap < 4) {
                sentence(x, 4 + cheap, cheap == 0 ? 0 : 1, 0, 5, cheap);
            } else {
                sentence(x, 22, 1, 1, 5, NONE);
            }
        }
        // of five alike ones the four that are taken first
        MendedLetters y = Check.with("a; b; c; d; e; xx;", "", "xx ?");
        y.set(6, 90);
        Check.follows(y, "xx d 0;");
        Check.is("the fourth", y.best(1, 3, 0), 3);
        sentence(y, 4, 1, 0, 5, 3);
        Check.follows(y, "xx e 0;");
        Check.is("the fifth", y.best(1, 4, 0), 4);
        sentence(y, 22, 1, 1, 5, NONE);
    }

    /** "of which the PRICE is not above that of OUTSIDE". */
    private static void notAboveOutside() {
        for (int weight = 20; weight <= 23; weight++) {
            MendedLetters x = Check.with("x; a; b " + weight + ";", "", "x a[b1]");
            x.set(6, 99);
            Check.follows(x, "x b 0; x a 50;");
            // b costs its WEIGHT and 1; OUTSIDE 22
            if (weight <= 21) {
                sentence(x, weight + 1, 1, 0, 0, 2);
            } else {
                sentence(x, 22, 1, 1, 0, NONE);
            }
        }
    }

    /** "(nothing beside OUTSIDE)". */
    private static void besideOutside() {
        MendedLetters x = Check.with("a; b;", "", "a q b");
        x.set(6, 99);
        sentence(x, 22, 0, 1, 0, NONE, 1);
        Check.reading(x, "q a");
        sentence(x, 22, 0, 1, NONE, 0);
        Check.reading(x, "a q");
        sentence(x, 22, 0, 1, 0, NONE);
        Check.reading(x, "q q");
        sentence(x, 44, 0, 2, NONE, NONE);
        Check.reading(x, "a b");
        // dear up to 22 it is said so; beyond it one of the two is OUTSIDE
        for (int dear = 21; dear <= 23; dear++) {
            Check.follows(x, "a b " + dear + ";");
            if (dear <= 22) {
                sentence(x, dear, 0, 0, 0, 1);
            } else {
                sentence(x, 22, 1, 1, 0, NONE);
            }
        }
    }

    /** "of alike ones that of which the first TOKEN that differs is a better WORD (OUTSIDE behind all)". */
    private static void alikeOnes() {
        MendedLetters x = Check.with("a; b;", "", "a[b1] a[b1]");
        Check.follows(x, "a a 2; a b 1; b a 1; b b 0;");
        // aa 2, ab 2, ba 2, bb 2
        sentence(x, 2, 0, 0, 0, 0);
        Check.follows(x, "a a 3; a b 1; b a 1; b b 0;");
        sentence(x, 2, 1, 0, 0, 1);
        Check.follows(x, "a a 3; a b 2; b a 1; b b 0;");
        sentence(x, 2, 1, 0, 1, 0);
        Check.follows(x, "a a 3; a b 2; b a 2; b b 0;");
        sentence(x, 2, 2, 0, 1, 1);
        // a WORD as dear as OUTSIDE is ahead of it
        MendedLetters y = Check.with("a 22;", "", "a");
        sentence(y, 22, 0, 0, 0);
        MendedLetters z = Check.with("a 22; b;", "", "b a");
        sentence(z, 22, 0, 0, 1, 0);
        z.set(6, 1);
        sentence(z, 22, 1, 1, 1, NONE);
        // two WORDS of one PRICE: the better one is the one taken first
        MendedLetters w = Check.with("b; a;", "", "?");
        sentence(w, 4, 0, 0, 0);
    }

    /** "TOKENS alone (none LOST)". */
    private static void noneLost() {
        MendedLetters x = Check.with("ab;", "", "a\nb");
        x.set(5, 0);
        Check.is("LOST in the text", x.text(2), 1);
        sentence(x, 44, 0, 2, NONE, NONE);
    }

    /** "1 how many TOKENS are other than MENDED alone". */
    private static void otherThanMended() {
        MendedLetters x = Check.with("a; b;", "", "a a[b1] a[b1]");
        sentence(x, 0, 0, 0, 0, 0, 0);
        Check.follows(x, "a a 5;");
        sentence(x, 1, 1, 0, 0, 1, 0);
        Check.follows(x, "a a 5; b a 5;");
        sentence(x, 2, 2, 0, 0, 1, 1);
        Check.follows(x, "a a 99; b a 99; a b 99; b b 99;");
        sentence(x, 22, 1, 1, 0, NONE, 0);
    }

    private static void fortyTokens() {
        MendedLetters x = Check.with("a 9;", "", "a ".repeat(40));
        int[] said = new int[40];
        // one as OUTSIDE saves its 9 and twice what it is dear, at 22
        x.set(6, 6);
        sentence(x, 40 * 9 + 39 * 6, 0, 0, said);
        x.set(6, 99);
        // each second one is OUTSIDE
        for (int token = 0; token < 40; token++) {
            said[token] = token % 2 == 0 ? 0 : NONE;
        }
        sentence(x, 20 * 9 + 20 * 22, 20, 20, said);
        Check.elements(x, "said(v)", v -> x.said(v), 0, 39);
        x.set(0, 999);
        x.set(1, 99);
        sentence(x, 40 * 9 + 39 * 99, 0, 0, new int[40]);
        x.forget();
        Check.is("the dearest", x.sentence(0), 40 * 1098);
    }

    private static void sentenceBounds() {
        MendedLetters none = new MendedLetters();
        Check.arguments(none, "sentence(v)", v -> none.sentence(v), 0, 2);
        MendedLetters x = Check.with("a;", "", "a q");
        Check.arguments(x, "sentence(v)", v -> x.sentence(v), 0, 2);
        Check.is("no other refusals", x.status(0), 0);
    }

    /** "NONE: OUTSIDE". */
    private static void saidBounds() {
        MendedLetters none = new MendedLetters();
        Check.missing(none, "said(0)", () -> none.said(0));
        MendedLetters x = Check.with("a;", "", "a q");
        Check.elements(x, "said(v)", v -> x.said(v), 0, 1);
        Check.is("said(0)", x.said(0), 0);
        Check.is("said(1)", x.said(1), NONE);
        Check.is("no other refusals", x.status(1), 0);
    }
}
