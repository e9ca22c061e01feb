/** Promises 32 to 34: FOLLOWS, and THE SENTENCE by them. */
public final class SentenceTest {
    private static final int NONE = MendedLetters.NONE;

    public static void main(String[] args) {
        promise32();
        promise33();
        promise33Choices();
        promise34();
        Check.end("SentenceTest");
    }

    private static void promise32() {
        MendedLetters x = Check.with("a; b; c;", "", "");
        Check.is("dear without FOLLOWS", x.dear(0, 1), 0);
        Check.follows(x, "a b 5; b c 0; c c 9; a b 6;");
        x.set(6, 44);
        Check.is("dear", x.dear(0, 1), 6);
        Check.is("dear the other way round", x.dear(1, 0), 44);
        Check.is("dear", x.dear(1, 2), 0);
        Check.is("dear behind itself", x.dear(2, 2), 9);
        Check.is("STRANGE behind itself", x.dear(0, 0), 44);
        Check.missing(x, "dear(3, 0)", () -> x.dear(3, 0));
        Check.missing(x, "dear(0, 3)", () -> x.dear(0, 3));
        Check.missing(x, "dear(-1, 0)", () -> x.dear(-1, 0));
        Check.missing(x, "dear(0, -1)", () -> x.dear(0, -1));
    }

    private static void sentence(MendedLetters x, int cost, int otherwise, int outside, int... said) {
        Check.is("sentence(0)", x.sentence(0), cost);
        Check.is("sentence(1)", x.sentence(1), otherwise);
        Check.is("sentence(2)", x.sentence(2), outside);
        for (int token = 0; token < said.length; token++) {
            Check.is("said(" + token + ")", x.said(token), said[token]);
        }
    }

    private static void promise33() {
        MendedLetters x = Check.with("a; b; c; d; e; x;", "a=e 4;", "a[b1 c2 d3] x");
        sentence(x, 0, 0, 0, 0, 5);
        x.set(6, 50);
        // a and x of OUTSIDE costs 22, as OUTSIDE and x: the first TOKEN is the better WORD
        sentence(x, 22, 1, 1, 0, NONE);
        Check.follows(x, "e x 0;");
        // e is the fifth best
        sentence(x, 22, 1, 1, 0, NONE);
        Check.follows(x, "e x 0; d x 3;");
        sentence(x, 6, 1, 0, 3, 5);
        Check.follows(x, "d x 0; b x 2; c x 1;");
        sentence(x, 3, 1, 0, 1, 5);
        Check.is("MENDED alone", x.mended(0, 0), 0);
        Check.illegal(x, "sentence(3)", () -> x.sentence(3));
        Check.illegal(x, "sentence(-1)", () -> x.sentence(-1));
        Check.reading(x, "  ");
        sentence(x, 0, 0, 0);
    }

    private static void promise33Choices() {
        // no TOKENS are LOST in it
        MendedLetters x = Check.with("ab;", "", "a\nb");
        sentence(x, 44, 0, 2, NONE, NONE);
        Check.is("but in the text", x.text(2), 1);
        // a WORD above OUTSIDE is no choice, one as dear is, and OUTSIDE is behind it
        MendedLetters y = Check.with("p; q; a 21; b 22;", "", "p a[b1] q");
        y.set(6, 1);
        sentence(y, 22, 1, 1, 0, NONE, 1);
        y.weigh(2, 22);
        Check.follows(y, "p a 0; a q 0;");
        sentence(y, 22, 0, 0, 0, 2, 1);
        Check.follows(y, "p b 0; b q 0;");
        sentence(y, 22, 1, 1, 0, NONE, 1);
        y.weigh(3, 21);
        sentence(y, 22, 1, 0, 0, 3, 1);
        // nothing is dear beside OUTSIDE
        MendedLetters z = Check.with("p; q;", "", "p zz q p");
        z.set(6, 7);
        sentence(z, 24 + 7, 0, 1, 0, NONE, 1, 0);
        Check.follows(z, "q p 3; p q 99;");
        sentence(z, 24 + 3, 0, 1, 0, NONE, 1, 0);
        // the first that differs is the better WORD, though a later one is worse
        MendedLetters w = Check.with("a; b;", "", "a[b1] a[b1]");
        w.set(6, 1);
        Check.follows(w, "a a 3; a b 0; b a 0;");
        sentence(w, 1, 1, 0, 0, 1);
        MendedLetters v = Check.with("x; a; b;", "", "x a[b1]");
        v.set(6, 1);
        Check.follows(v, "x b 0;");
        sentence(v, 1, 0, 0, 0, 1);
        // forty TOKENS
        MendedLetters u = Check.with("a; b;", "", "a[b1] ".repeat(40));
        u.set(6, 2);
        Check.follows(u, "a b 0; b a 0;");
        int[] said = new int[40];
        for (int token = 1; token < 40; token += 2) {
            said[token] = 1;
        }
        sentence(u, 20, 20, 0, said);
    }

    private static void promise34() {
        MendedLetters x = Check.with("a; b;", "", "a b zz");
        Check.is("said(0)", x.said(0), 0);
        Check.is("said(1)", x.said(1), 1);
        Check.is("said(2)", x.said(2), NONE);
        x.set(6, 99);
        Check.is("said(0)", x.said(0), 0);
        Check.is("said(1)", x.said(1), NONE);
        Check.follows(x, "a b 5;");
        Check.is("said(1)", x.said(1), 1);
        x.forget();
        Check.is("said(0)", x.said(0), NONE);
        Check.missing(x, "said(3)", () -> x.said(3));
        Check.missing(x, "said(-1)", () -> x.said(-1));
    }
}
