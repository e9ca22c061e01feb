/** Promises 11 and 22 to 25: the best WORDS of a TOKEN, MENDED alone, learned. */
public final class BestTest {
    private static final int NONE = MendedLetters.NONE;

    public static void main(String[] args) {
        promise11();
        promise22Order();
        promise22Edges();
        promise22Many();
        promise22Again();
        promise22Refusals();
        promise23();
        promise24();
        promise25();
        Check.end("BestTest");
    }

    private static void promise11() {
        MendedLetters x = Check.with("a 2; b 50; c 60;", "", "a[b5 c5] zz b");
        Check.is("learn", x.learn(0), 0);
        Check.is("1 less", x.word(0, 1), 1);
        Check.is("the next best one, though above OUTSIDE", x.word(1, 1), 51);
        Check.is("others stay", x.word(2, 1), 60);
        Check.is("LEAST", x.node(0, 3), 1);
        Check.is("learn OUTSIDE", x.learn(1), NONE);
        Check.is("learn a WORD above OUTSIDE", x.learn(2), NONE);
        Check.is("nothing is", x.word(1, 1), 51);
        x.weigh(0, 0);
        x.weigh(1, 99);
        x.weigh(2, 99);
        Check.is("learn", x.learn(0), 0);
        Check.is("0 at least", x.word(0, 1), 0);
        Check.is("99 at most", x.word(1, 1), 99);
        Check.is("only the next best one", x.word(2, 1), 99);
        x.weigh(2, 97);
        x.learn(0);
        Check.is("the next best one is another now", x.word(2, 1), 98);
        Check.reading(x, "a");
        Check.is("learn without a next best one", x.learn(0), 0);
        Check.is("refusals", x.status(0) + x.status(1), 0);
        Check.missing(x, "learn(1)", () -> x.learn(1));
        Check.missing(x, "learn(-1)", () -> x.learn(-1));
    }

    private static void promise22Order() {
        Check.is("by BOUND", bestOf("ab 1; ba 1;", "", "a[b2]b[a2]"), "0:1:3 1:5:5");
        Check.is("of STATES the lesser NODE", bestOf("b; a;", "", "?"), "0:4:2 1:4:3");
        Check.is("of ANSWERS the lesser WORD", bestOf("ab; b 5; bc; a 5;", "", "?"), "1:9:3 3:9:3");
        Check.is("of STATES the greater place", bestOf("ab 1; x;", "ab=x 1;", "ab"), "1:1:2 0:1:4");
        // (0,0), then a of BOUND 0, its end of BOUND 0 makes a of 3; b of BOUND 3 waits, but the ANSWER is taken
        Check.is("an ANSWER ahead of STATES", bestOf("a 3; ab; b;", "", "a[b3]"), "0:3:2 2:3:3");
        Check.is("LEAST is in the BOUND", bestOf("ax 9; bx;", "", "a[b3]x"), "1:3:3 0:9:5");
        Check.is("REST is in the BOUND", bestOf("ac; bd;", "", "a[b1]?"), "0:4:3 1:5:5");
        Check.is("no WORDS", bestOf("", "", "abc"), "");
        Check.is("none can be", bestOf("ab; abcd;", "", "abc"), "");
    }

    private static void promise22Edges() {
        Check.is("the lesser COST of two EDGES", bestOf("b;", "", "a[b3 b1]"), "0:1:2");
        Check.is("the lesser COST of two ways", bestOf("cd;", "ab=cd 9; a=c 1; b=d 1;", "ab"), "0:2:3");
        Check.is("a SHAPE that splits", bestOf("mud 2;", "r=mu 7;", "rd"), "0:9:3");
        Check.is("a SHAPE that joins", bestOf("m;", "rni=m 7;", "rni"), "0:7:2");
        Check.is("SHAPES are of letters themselves", bestOf("m;", "rn=m 7;", "r?"), "");
        Check.is("SHAPES are not of others", bestOf("m;", "rn=m 7;", "r[x1]x[n1]"), "");
        Check.is("a HYPHEN or a SPECK", bestOf("a-b; ab;", "", "a-b"), "0:0:4 1:3:6");
        Check.is("a BREAK or a HYPHEN", bestOf("a-b; ab;", "", "a-\nb"), "1:0:4 0:1:6");
        Check.is("no SHAPE over a BREAK", bestOf("m;", "rn=m;", "r-\nn"), "");
        Check.is("a BLOT is no HYPHEN", bestOf("a-b;", "", "a?b"), "");
        MendedLetters x = Check.with("ab; a-b; axb;", "", "a-b a?b a-\nb");
        x.set(2, 9);
        x.set(3, 8);
        x.set(4, 7);
        Check.is("SPECK set", x.best(0, 1, 1), 8);
        Check.is("BLOT set", x.best(1, 0, 1), 9);
        Check.is("KEPT set", x.best(2, 1, 1), 7);
    }

    /** Many STATES wait at once, whose BOUNDS come in no order. */
    private static void promise22Many() {
        StringBuilder text = new StringBuilder();
        int[] words = new int[52];
        for (int i = 0; i < 52; i++) {
            int weight = i * 31 % 53;
            text.append((char) ('a' + i / 2)).append((char) ('a' + i * 7 % 26)).append(weight).append(';');
            words[i] = weight;
        }
        MendedLetters x = Check.with(text.toString(), "", "??");
        int weightBefore = -1;
        for (int j = 0; j < 52; j++) {
            int word = x.best(0, j, 0);
            Check.is("PRICE of the " + j + "-th", x.best(0, j, 1), 8 + words[word]);
            Check.is("it is above that ahead", words[word] > weightBefore, true);
            weightBefore = words[word];
        }
        Check.is("no more", x.best(0, 52, 0), NONE);
        Check.is("all were OPENED: the first one, a to z, and the ends of all", x.best(0, 51, 2), 1 + 26 + 52);
    }

    /** What was asked does not stay, when something is told behind it. */
    private static void promise22Again() {
        MendedLetters x = Check.with("ab; bb 3;", "", "a?");
        Check.is("at first", Check.bestOf(x, 0), "0:4:3");
        Check.lexicon(x, "aa 1;");
        Check.is("with a WORD more", Check.bestOf(x, 0), "0:4:3 2:5:4");
        Check.shapes(x, "a=b 1;");
        Check.is("with a SHAPE", Check.bestOf(x, 0), "0:4:3 2:5:4 1:8:6");
        Check.is("and WORDS from one another", x.apart(0, 1), 1);
        Check.is("and again", Check.bestOf(x, 0), "0:4:3 2:5:4 1:8:6");
        Check.is("and again", x.apart(2, 0), 1);
        Check.reading(x, "aa");
        Check.is("with another READING", Check.bestOf(x, 0), "0:1:3 2:1:4 1:5:6");
    }

    private static String bestOf(String lexicon, String shapes, String reading) {
        return Check.bestOf(Check.with(lexicon, shapes, reading), 0);
    }

    private static void promise22Refusals() {
        MendedLetters x = Check.with("ab; ba;", "", "ab");
        for (int what = 0; what < 3; what++) {
            Check.is("j below 0", x.best(0, -1, what), NONE);
            Check.is("not so many", x.best(0, 1, what), NONE);
            Check.is("not so many", x.best(0, Integer.MAX_VALUE, what), NONE);
            Check.is("j below 0", x.best(0, Integer.MIN_VALUE, what), NONE);
        }
        Check.illegal(x, "best(0, 0, 3)", () -> x.best(0, 0, 3));
        Check.illegal(x, "best(0, -1, -1)", () -> x.best(0, -1, -1));
        Check.missing(x, "best(1, 0, 0)", () -> x.best(1, 0, 0));
        Check.missing(x, "best(-1, 0, 3)", () -> x.best(-1, 0, 3));
    }

    private static void promise23() {
        MendedLetters x = Check.with("ab 5; ba 6; bb 99; c;", "a=b 20;", "a[b30]b");
        Check.is("PRICE", x.price(0, 0), 5);
        Check.is("it can't be", x.price(0, 1), NONE);
        Check.is("PRICE above OUTSIDE", x.price(0, 2), 119);
        Check.is("it can't be", x.price(0, 3), NONE);
        x.weigh(2, 3);
        Check.is("PRICE", x.price(0, 2), 23);
        Check.missing(x, "price(1, 0)", () -> x.price(1, 0));
        Check.missing(x, "price(-1, 0)", () -> x.price(-1, 0));
        Check.missing(x, "price(0, 4)", () -> x.price(0, 4));
        Check.missing(x, "price(0, -1)", () -> x.price(0, -1));
    }

    private static void promise24() {
        MendedLetters x = Check.with("a 5; b 1; c 99; d;", "", "a[b4 c99]");
        Check.is("within 4", x.within(0, 4), 0);
        Check.is("within 5", x.within(0, 5), 2);
        Check.is("within 197", x.within(0, 197), 2);
        Check.is("within 198", x.within(0, 198), 3);
        Check.is("within 9999", x.within(0, 9999), 3);
        Check.is("within 0", x.within(0, 0), 0);
        x.weigh(0, 0);
        Check.is("within 0", x.within(0, 0), 1);
        Check.illegal(x, "within(0, -1)", () -> x.within(0, -1));
        Check.illegal(x, "within(0, 10000)", () -> x.within(0, 10000));
        Check.missing(x, "within(1, 0)", () -> x.within(1, 0));
        Check.missing(x, "within(-1, 10000)", () -> x.within(-1, 10000));
    }

    private static void promise25() {
        MendedLetters x = Check.with("a 22; b 30;", "", "a zz a[b1]");
        mended(x, 0, 0, 22, 0);
        mended(x, 1, NONE, 24, NONE);
        x.weigh(0, 23);
        mended(x, 0, NONE, 22, 1);
        x.weigh(0, 3);
        mended(x, 0, 0, 3, 19);
        mended(x, 2, 0, 3, 19);
        x.weigh(1, 9);
        mended(x, 2, 0, 3, 7);
        x.set(0, 0);
        mended(x, 0, NONE, 2, 1);
        x.set(1, 3);
        mended(x, 0, 0, 3, 0);
        Check.illegal(x, "mended(0, 3)", () -> x.mended(0, 3));
        Check.illegal(x, "mended(0, -1)", () -> x.mended(0, -1));
        Check.missing(x, "mended(3, 0)", () -> x.mended(3, 0));
        Check.missing(x, "mended(-1, 3)", () -> x.mended(-1, 3));
    }

    private static void mended(MendedLetters x, int token, int word, int price, int more) {
        Check.is("mended(" + token + ", 0)", x.mended(token, 0), word);
        Check.is("mended(" + token + ", 1)", x.mended(token, 1), price);
        Check.is("mended(" + token + ", 2)", x.mended(token, 2), more);
    }
}
