/** Promises 10 and 13 to 18: WORDS, the TREE, SHAPES. */
public final class LexiconTest {
    private static final int NONE = MendedLetters.NONE;

    public static void main(String[] args) {
        promise10();
        promise13();
        promise14();
        promise15();
        promise16();
        promise17();
        promise18();
        Check.end("LexiconTest");
    }

    /** NODES: c 1, a 2, t 3, s 4; c-a is - 5, a 6; d 7, o 8. */
    private static MendedLetters tree() {
        return Check.with("cats 6; cat 4; c-a 2; do 9;", "", "");
    }

    private static void promise10() {
        MendedLetters x = tree();
        Check.is("LEAST of c", x.node(1, 3), 2);
        Check.is("weigh", x.weigh(2, 99), 2);
        Check.is("its WEIGHT", x.word(2, 1), 99);
        Check.is("LEAST of c", x.node(1, 3), 4);
        Check.is("LEAST of c-", x.node(5, 3), 99);
        Check.is("weigh", x.weigh(2, 0), 99);
        Check.is("LEAST of the root", x.node(0, 3), 0);
        Check.reading(x, "do");
        Check.is("PRICE", x.best(0, 0, 1), 9);
        x.weigh(3, 1);
        Check.is("PRICE", x.best(0, 0, 1), 1);
        Check.illegal(x, "weigh(0, 100)", () -> x.weigh(0, 100));
        Check.illegal(x, "weigh(0, -1)", () -> x.weigh(0, -1));
        Check.missing(x, "weigh(4, 1)", () -> x.weigh(4, 1));
        Check.missing(x, "weigh(-1, 1)", () -> x.weigh(-1, 1));
        Check.missing(x, "weigh(4, 100)", () -> x.weigh(4, 100));
        Check.is("it stays", x.word(0, 1), 6);
    }

    private static void promise13() {
        MendedLetters x = tree();
        int[][] due = {{4, 6, 4, 0}, {3, 4, 3, 1}, {3, 2, 6, 0}, {2, 9, 8, 0}};
        for (int word = 0; word < 4; word++) {
            for (int what = 0; what < 4; what++) {
                Check.is("word(" + word + ", " + what + ")", x.word(word, what), due[word][what]);
            }
        }
        Check.lexicon(x, "d; dot; doting;");
        Check.is("begin with do", x.word(3, 3), 2);
        Check.is("begin with d", x.word(4, 3), 3);
        Check.illegal(x, "word(0, -1)", () -> x.word(0, -1));
        Check.illegal(x, "word(0, 4)", () -> x.word(0, 4));
        Check.missing(x, "word(7, 0)", () -> x.word(7, 0));
        Check.missing(x, "word(-1, 9)", () -> x.word(-1, 9));
    }

    private static void promise14() {
        MendedLetters x = tree();
        Check.is("sign", x.sign(2, 0), 'c');
        Check.is("sign", x.sign(2, 1), '-');
        Check.is("sign", x.sign(2, 2), 'a');
        Check.is("sign", x.sign(0, 3), 's');
        Check.is("no such sign", x.sign(2, 3), NONE);
        Check.is("no such sign", x.sign(2, -1), NONE);
        Check.is("no such sign", x.sign(2, Integer.MAX_VALUE), NONE);
        Check.is("no such sign", x.sign(2, Integer.MIN_VALUE), NONE);
        Check.missing(x, "sign(4, 0)", () -> x.sign(4, 0));
        Check.missing(x, "sign(-1, 0)", () -> x.sign(-1, 0));
    }

    private static void promise15() {
        MendedLetters x = tree();
        Check.feed(x, "catsx");
        Check.is("find c", x.find(1), NONE);
        Check.is("find cat", x.find(3), 1);
        Check.is("find cats", x.find(4), 0);
        Check.is("find catsx", x.find(5), NONE);
        Check.is("find none", x.find(0), NONE);
        Check.is("find with a byte behind", x.find(20), NONE);
        Check.is("the TAPE stays", x.told(11), 20);
        Check.illegal(x, "find(21)", () -> x.find(21));
        Check.illegal(x, "find(-1)", () -> x.find(-1));
    }

    private static void promise16() {
        MendedLetters x = tree();
        int[][] due = {
            {NONE, 0, NONE, 2, 2, 4}, {0, 'c', NONE, 2, 2, 3}, {1, 'a', NONE, 4, 1, 2}, {2, 't', 1, 4, 1, 2},
            {3, 's', 0, 6, 0, 1}, {1, '-', NONE, 2, 1, 1}, {5, 'a', 2, 2, 0, 1}, {0, 'd', NONE, 9, 1, 1},
            {7, 'o', 3, 9, 0, 1}};
        Check.is("NODES", x.told(1), due.length);
        for (int node = 0; node < due.length; node++) {
            for (int what = 0; what < 6; what++) {
                Check.is("node(" + node + ", " + what + ")", x.node(node, what), due[node][what]);
            }
        }
        Check.illegal(x, "node(0, 6)", () -> x.node(0, 6));
        Check.illegal(x, "node(0, -1)", () -> x.node(0, -1));
        Check.missing(x, "node(9, 0)", () -> x.node(9, 0));
        Check.missing(x, "node(-1, 6)", () -> x.node(-1, 6));
    }

    private static void promise17() {
        MendedLetters x = tree();
        Check.is("child", x.child(0, 'c'), 1);
        Check.is("child", x.child(0, 'd'), 7);
        Check.is("child", x.child(1, 'a'), 2);
        Check.is("child", x.child(1, '-'), 5);
        Check.is("no child", x.child(1, 'b'), NONE);
        Check.is("no child", x.child(8, 'o'), NONE);
        Check.is("no child", x.child(0, 0), NONE);
        Check.is("no child", x.child(0, -1), NONE);
        Check.is("no child", x.child(0, 'c' + 256), NONE);
        Check.is("no child", x.child(0, Integer.MIN_VALUE), NONE);
        Check.missing(x, "child(9, 'a')", () -> x.child(9, 'a'));
        Check.missing(x, "child(-1, 'a')", () -> x.child(-1, 'a'));
        StringBuilder all = new StringBuilder();
        for (char sign = 'a'; sign <= 'z'; sign++) {
            all.append("x").append(sign).append(';');
        }
        MendedLetters y = Check.with(all + "x-x;", "", "");
        Check.is("CHILDREN of x", y.node(1, 4), 27);
        Check.is("the first", y.child(1, 'a'), 2);
        Check.is("the last letter", y.child(1, 'z'), 27);
        Check.is("the hyphen", y.child(1, '-'), 28);
    }

    private static void promise18() {
        MendedLetters x = Check.with("", "rn=m 2; a=bcd; xyz=qr 99;", "");
        int[][] due = {{2, 2, 1}, {5, 1, 3}, {99, 3, 2}};
        for (int shape = 0; shape < 3; shape++) {
            for (int what = 0; what < 3; what++) {
                Check.is("shape(" + shape + ", " + what + ")", x.shape(shape, what), due[shape][what]);
            }
        }
        Check.illegal(x, "shape(0, 3)", () -> x.shape(0, 3));
        Check.illegal(x, "shape(0, -1)", () -> x.shape(0, -1));
        Check.missing(x, "shape(3, 0)", () -> x.shape(3, 0));
        Check.missing(x, "shape(-1, 3)", () -> x.shape(-1, 3));
    }
}
