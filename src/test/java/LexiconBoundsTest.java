/** The boundary cases of a LEXICON and its TREE (promises 3, 8, 10, 13 to 17). */
public final class LexiconBoundsTest {
    private static final int NONE = MendedLetters.NONE;

    public static void main(String[] args) {
        oneToTwelveSigns();
        hyphenFirstAndLast();
        weights();
        blanks();
        sixtyWords();
        sixtyWordsAndForget();
        toldForTheSecondTime();
        nodesAsTheyCome();
        mostNodes();
        leastOfNodes();
        forgetAll();
        weighBounds();
        wordBounds();
        signBounds();
        findBounds();
        nodeBounds();
        childBounds();
        Check.end("LexiconBoundsTest");
    }

    /** "WORD: 1 to 12 letters or "-"", "a word's 13th sign .. at it". */
    private static void oneToTwelveSigns() {
        String signs = "abcdefghijklmnop";
        for (int length = 1; length <= 16; length++) {
            MendedLetters x = new MendedLetters();
            String text = signs.substring(0, length) + ";";
            if (length <= 12) {
                Check.fine(x, "lexicon", text, 1);
                Check.is("signs", x.word(0, 0), length);
                Check.is("NODES", x.told(1), 1 + length);
            } else {
                Check.fault(x, "lexicon", text, 3, 12);
                Check.fault(x, "lexicon", " " + text, 3, 13);
                Check.fault(x, "lexicon", text.substring(0, length), 3, 12);
            }
        }
        MendedLetters x = new MendedLetters();
        Check.fault(x, "lexicon", ";", 1, 0);
        Check.fault(x, "lexicon", "  ;", 1, 2);
        Check.fault(x, "lexicon", "12;", 1, 0);
        Check.fine(x, "lexicon", "abcdefghijkl99;", 1);
        Check.fault(x, "lexicon", "abcdefghijklm;", 3, 12);
        Check.fault(x, "lexicon", "b;abcdefghijklm100;", 3, 14);
    }

    /** "(not "-" first, last)". */
    private static void hyphenFirstAndLast() {
        MendedLetters x = new MendedLetters();
        Check.fault(x, "lexicon", "-;", 1, 0);
        Check.fault(x, "lexicon", "-a;", 1, 0);
        Check.fault(x, "lexicon", " -a;", 1, 1);
        Check.fault(x, "lexicon", "--a;", 1, 0);
        Check.fault(x, "lexicon", "a-;", 1, 2);
        Check.fault(x, "lexicon", "a--;", 1, 3);
        Check.fault(x, "lexicon", "a- b;", 1, 2);
        Check.fault(x, "lexicon", "a-9;", 1, 2);
        Check.fault(x, "lexicon", "a-", 1, 2);
        Check.fault(x, "lexicon", "abcdefghijk-;", 1, 12);
        Check.fault(x, "lexicon", "abcdefghijk-", 1, 12);
        Check.fault(x, "lexicon", "abcdefghijk-m;", 3, 12);
        Check.fault(x, "lexicon", "abcdefghijkl-;", 3, 12);
        Check.fault(x, "lexicon", "abcdefghijk--;", 3, 12);
        Check.fine(x, "lexicon", "a-b;abcdefghij-l;a----------b;a-bcdefghijk;", 4);
        Check.is("twelve signs", x.word(2, 0), 12);
        Check.is("sign", x.sign(1, 10), '-');
        Check.is("sign", x.sign(3, 1), '-');
    }

    /** "its WEIGHT 0 to 99 (0 without)". */
    private static void weights() {
        MendedLetters x = new MendedLetters();
        Check.fine(x, "lexicon", "a;b 0;c 1;d 98;e 99;f00;g099;", 7);
        int[] due = {0, 0, 1, 98, 99, 0, 99};
        for (int word = 0; word < due.length; word++) {
            Check.is("WEIGHT of " + word, x.word(word, 1), due[word]);
        }
        Check.fault(x, "lexicon", "h 100;", 2, 2);
        Check.fault(x, "lexicon", "h100;", 2, 1);
        Check.fault(x, "lexicon", "h -1;", 1, 2);
        Check.fault(x, "lexicon", "h 1 2;", 1, 4);
        Check.fault(x, "lexicon", "h 1-;", 1, 3);
    }

    /** "Blanks (32) may stand ahead of words, numbers, ";", at the end." */
    private static void blanks() {
        Check.fine(new MendedLetters(), "lexicon", "   a   1   ;   b   ;   ", 2);
        Check.fine(new MendedLetters(), "lexicon", "a1;b;", 2);
        Check.fault(new MendedLetters(), "lexicon", "a b;", 1, 2);
        Check.fault(new MendedLetters(), "lexicon", "a 1 1;", 1, 4);
        Check.fault(new MendedLetters(), "lexicon", "a -b;", 1, 2);
        for (char other : new char[] {0, 9, 10, 11, 13, 31, 33, 160}) {
            Check.fault(new MendedLetters(), "lexicon", other + "a;", 1, 0);
            Check.fault(new MendedLetters(), "lexicon", "a" + other + ";", 1, 1);
            Check.fault(new MendedLetters(), "lexicon", "a " + other + "1;", 1, 2);
            Check.fault(new MendedLetters(), "lexicon", "a 1" + other + ";", 1, 3);
            Check.fault(new MendedLetters(), "lexicon", "a;" + other, 1, 2);
        }
    }

    private static String words(int first, int count) {
        StringBuilder text = new StringBuilder();
        for (int i = first; i < first + count; i++) {
            text.append((char) ('a' + i / 26)).append((char) ('a' + i % 26)).append(';');
        }
        return text.toString();
    }

    /** "WORDS are numbered from 0 on (60 at most)", "a 61st word .. at its first byte". */
    private static void sixtyWords() {
        MendedLetters x = new MendedLetters();
        Check.fault(x, "lexicon", words(0, 61), 3, 180);
        Check.fine(x, "lexicon", words(0, 59), 59);
        Check.fault(x, "lexicon", words(59, 2), 3, 3);
        Check.fault(x, "lexicon", "  zy 1;  zz 2;", 3, 9);
        Check.fine(x, "lexicon", words(59, 1), 60);
        Check.is("told(0)", x.told(0), 60);
        Check.is("the last one's first sign", x.sign(59, 0), 'c');
        Check.is("the last one's last sign", x.sign(59, 1), 'h');
        Check.fault(x, "lexicon", words(60, 1), 3, 0);
        Check.fault(x, "lexicon", "  zz 100;", 3, 2);
        Check.fault(x, "lexicon", "z", 3, 0);
        Check.fault(x, "lexicon", "abcdefghijklm;", 3, 0);
        Check.fault(x, "lexicon", "-z;", 1, 0);
        Check.fault(x, "lexicon", "1", 1, 0);
        Check.fine(x, "lexicon", "", 60);
        Check.fine(x, "lexicon", "   ", 60);
        MendedLetters y = new MendedLetters();
        Check.fine(y, "lexicon", words(0, 60), 60);
        Check.fault(y, "lexicon", words(60, 1), 3, 0);
        MendedLetters z = new MendedLetters();
        for (int i = 0; i < 60; i++) {
            Check.fine(z, "lexicon", words(i, 1), i + 1);
        }
        Check.fault(z, "lexicon", words(60, 1), 3, 0);
    }

    private static void sixtyWordsAndForget() {
        MendedLetters x = new MendedLetters();
        for (int round = 0; round < 3; round++) {
            Check.fine(x, "lexicon", words(round, 60), 60);
            Check.fault(x, "lexicon", "zz;", 3, 0);
            Check.is("forget", x.forget(), 60);
            Check.is("told(1)", x.told(1), 1);
        }
    }

    /** "4 (at its first byte) a word that is told for the second time". */
    private static void toldForTheSecondTime() {
        MendedLetters x = new MendedLetters();
        Check.fault(x, "lexicon", "ab;ab;", 4, 3);
        Check.fault(x, "lexicon", " ab 1; cd; ab 1;", 4, 11);
        Check.fault(x, "lexicon", "ab;cd;ab;cd;", 4, 6);
        Check.fine(x, "lexicon", "ab;abc;a;abcdefghijkl;a-b;", 5);
        String[] again = {"ab", "abc", "a", "abcdefghijkl", "a-b"};
        for (String word : again) {
            Check.fault(x, "lexicon", word + ";", 4, 0);
            Check.fault(x, "lexicon", "zz; " + word + " 5;", 4, 4);
            Check.fault(x, "lexicon", "zz; " + word + " 100;", 4, 4);
            Check.fault(x, "lexicon", "zz; " + word, 4, 4);
            Check.fault(x, "lexicon", "zz; " + word + "!", 4, 4);
        }
        Check.fault(x, "lexicon", "a-;", 1, 2);
        Check.fault(x, "lexicon", "abcdefghijklm;", 3, 12);
        Check.fine(x, "lexicon", "abcdefghijk;ac;b;ba;a-c;a--b;", 11);
        Check.is("forget", x.forget(), 11);
        Check.fine(x, "lexicon", "ab;abc;", 2);
        Check.fault(x, "lexicon", "ab;", 4, 0);
        // behind a FAULT no word of that text was told
        Check.fault(x, "lexicon", "q;r;s 100;", 2, 6);
        Check.fine(x, "lexicon", "q;r;s;", 5);
    }

    /** "NODE 0 is its root; .. NODES are numbered as they come, WORD by WORD, sign by sign". */
    private static void nodesAsTheyCome() {
        MendedLetters x = new MendedLetters();
        Check.is("NODES of none", x.told(1), 1);
        Check.fine(x, "lexicon", "ba;b;", 2);
        Check.is("NODES", x.told(1), 3);
        Check.is("end of ba", x.word(0, 2), 2);
        Check.is("end of b", x.word(1, 2), 1);
        Check.fine(x, "lexicon", "bb;a;bab;", 5);
        Check.is("end of bb", x.word(2, 2), 3);
        Check.is("end of a", x.word(3, 2), 4);
        Check.is("end of bab", x.word(4, 2), 5);
        Check.is("NODES", x.told(1), 6);
        // NODES of a text with a FAULT are none
        Check.fault(x, "lexicon", "zzz;A", 1, 4);
        Check.fine(x, "lexicon", "c;", 6);
        Check.is("end of c", x.word(5, 2), 6);
    }

    /** 60 WORDS of 12 signs share no NODE but the root and their first: 26 letters may stand first. */
    private static void mostNodes() {
        MendedLetters x = new MendedLetters();
        int told = 0;
        StringBuilder text = new StringBuilder();
        for (int i = 0; i < 60; i++) {
            text.append((char) ('a' + i % 26)).append((char) ('a' + i / 26)).append("cdefghijkl").append(";");
            if (i % 30 == 29) {
                told += 30;
                Check.fine(x, "lexicon", text.toString(), told);
                text.setLength(0);
            }
        }
        int nodes = 1 + 26 + 60 * 11;
        Check.is("NODES", x.told(1), nodes);
        Check.is("end of the last", x.word(59, 2), nodes - 1);
        Check.is("its WORD", x.node(nodes - 1, 2), 59);
        Check.missing(x, "no such NODE", () -> x.node(nodes, 0));
        Check.is("CHILDREN of the root", x.node(0, 4), 26);
        Check.is("WORDS of the root", x.node(0, 5), 60);
        Check.is("WORDS by a", x.node(1, 5), 3);
        Check.reading(x, "????????????");
        for (int j = 0; j < 60; j++) {
            Check.is("best " + j, x.best(0, j, 1), 48);
        }
        Check.is("no more", x.best(0, 60, 0), NONE);
        Check.is("all STATES OPENED", x.best(0, 59, 2), nodes);
    }

    /** "LEAST of a NODE: the least WEIGHT of all WORDS that go through it, or end there"; "NONE: without WORDS". */
    private static void leastOfNodes() {
        MendedLetters x = new MendedLetters();
        Check.is("LEAST of the root without WORDS", x.node(0, 3), NONE);
        Check.fine(x, "lexicon", "ab 99;", 1);
        Check.is("LEAST of the root", x.node(0, 3), 99);
        Check.fine(x, "lexicon", "a 50; abc 98;", 3);
        int[] due = {50, 50, 98, 98};
        for (int node = 0; node < 4; node++) {
            Check.is("LEAST of " + node, x.node(node, 3), due[node]);
        }
        x.weigh(1, 99);
        Check.is("LEAST of the root", x.node(0, 3), 98);
        x.weigh(2, 99);
        Check.is("LEAST of the root", x.node(0, 3), 99);
        x.weigh(2, 0);
        Check.is("LEAST of the root", x.node(0, 3), 0);
        Check.is("LEAST of ab", x.node(2, 3), 0);
        x.forget();
        Check.is("LEAST of the root without WORDS", x.node(0, 3), NONE);
        // of a WORD of twelve signs the root is the thirteenth NODE from its end
        Check.fine(x, "lexicon", "abcdefghijkl 7;", 1);
        for (int node = 0; node <= 12; node++) {
            Check.is("LEAST of " + node, x.node(node, 3), 7);
        }
        x.weigh(0, 3);
        for (int node = 0; node <= 12; node++) {
            Check.is("LEAST of " + node, x.node(node, 3), 3);
        }
    }

    /** "There are no WORDS any more, no FOLLOWS: how many there were." */
    private static void forgetAll() {
        MendedLetters x = new MendedLetters();
        Check.is("forget none", x.forget(), 0);
        Check.fine(x, "lexicon", "a;b;", 2);
        Check.follows(x, "a b 9;");
        Check.is("forget two", x.forget(), 2);
        Check.is("forget none", x.forget(), 0);
        Check.missing(x, "word(0, 0)", () -> x.word(0, 0));
        Check.missing(x, "node(1, 0)", () -> x.node(1, 0));
        Check.fault(x, "follows", "a b 9;", 5, 0);
        Check.fine(x, "lexicon", "a;b;", 2);
        Check.is("no FOLLOWS", x.dear(0, 1), 0);
        Check.is("weights", x.word(0, 1), 0);
        // the TREE is as if there had never been others
        String[] texts = {"abc 3;abd 4;ab 5;b 6;", "b;ba 2;", "z-z 9;", "abc;abd;abe;abf;a;b;c;d;"};
        for (String text : texts) {
            MendedLetters y = new MendedLetters();
            Check.lexicon(y, text);
            x.forget();
            Check.lexicon(x, text);
            Check.is("the TREE of " + text, Check.state(x), Check.state(y));
        }
    }

    /** "WEIGHT (0 to 99)"; "NoSuchElementException: no such WORD .. (so below, ahead of others)". */
    private static void weighBounds() {
        MendedLetters x = new MendedLetters();
        Check.missing(x, "weigh(0, 0) of none", () -> x.weigh(0, 0));
        Check.missing(x, "weigh(0, 100) of none", () -> x.weigh(0, 100));
        Check.fine(x, "lexicon", "a 5; b 6;", 2);
        Check.arguments(x, "weigh(1, v)", v -> x.weigh(1, v), 0, 99);
        Check.elements(x, "weigh(v, 7)", v -> x.weigh(v, 7), 0, 1);
        Check.elements(x, "weigh(v, 0)", v -> x.weigh(v, 0), 0, 1);
        for (int weight : new int[] {-1, 100, Integer.MIN_VALUE, Integer.MAX_VALUE}) {
            Check.missing(x, "weigh(2, " + weight + ")", () -> x.weigh(2, weight));
            Check.missing(x, "weigh(-1, " + weight + ")", () -> x.weigh(-1, weight));
        }
        Check.is("what it was", x.weigh(0, 99), 0);
        Check.is("what it was", x.weigh(0, 99), 99);
        Check.is("what it was", x.weigh(0, 0), 99);
        Check.is("the other one", x.word(1, 1), 0);
    }

    private static void wordBounds() {
        MendedLetters none = new MendedLetters();
        Check.missing(none, "word(0, 0)", () -> none.word(0, 0));
        Check.missing(none, "word(0, 4)", () -> none.word(0, 4));
        MendedLetters x = Check.with("a;ab;abc;b;abd;", "", "");
        Check.elements(x, "word(v, 0)", v -> x.word(v, 0), 0, 4);
        Check.arguments(x, "word(4, v)", v -> x.word(4, v), 0, 3);
        for (int what : new int[] {-1, 4, Integer.MIN_VALUE, Integer.MAX_VALUE}) {
            Check.missing(x, "word(5, " + what + ")", () -> x.word(5, what));
            Check.missing(x, "word(-1, " + what + ")", () -> x.word(-1, what));
        }
        // "how many other WORDS begin with it"
        int[] begin = {3, 2, 0, 0, 0};
        for (int word = 0; word < 5; word++) {
            Check.is("word(" + word + ", 3)", x.word(word, 3), begin[word]);
        }
    }

    /** "NONE: there are not so many, or k is below 0." */
    private static void signBounds() {
        MendedLetters none = new MendedLetters();
        Check.missing(none, "sign(0, 0)", () -> none.sign(0, 0));
        MendedLetters x = Check.with("a;abcdefghijkl;", "", "");
        Check.elements(x, "sign(v, 0)", v -> x.sign(v, 0), 0, 1);
        Check.missing(x, "sign(2, -1)", () -> x.sign(2, -1));
        int[] farthest = {-1, -2, Integer.MIN_VALUE, Integer.MAX_VALUE, 65536, -65536};
        for (int k : farthest) {
            Check.is("sign(0, " + k + ")", x.sign(0, k), NONE);
            Check.is("sign(1, " + k + ")", x.sign(1, k), NONE);
        }
        Check.is("sign(0, 0)", x.sign(0, 0), 'a');
        Check.is("sign(0, 1)", x.sign(0, 1), NONE);
        Check.is("sign(1, 11)", x.sign(1, 11), 'l');
        Check.is("sign(1, 12)", x.sign(1, 12), NONE);
        Check.is("no refusals more", x.status(0), 7);
    }

    /** "NONE: there is none such." */
    private static void findBounds() {
        MendedLetters x = Check.with("", "", "");
        Check.feed(x, "a");
        for (int n = 0; n <= 20; n++) {
            Check.is("find(" + n + ") of none", x.find(n), NONE);
        }
        Check.is("an empty LEXICON", x.lexicon(0), 0);
        Check.lexicon(x, "a;abcdefghijkl;a-b;");
        Check.feed(x, "abcdefghijklm");
        for (int n = 0; n <= 20; n++) {
            Check.is("find(" + n + ")", x.find(n), n == 1 ? 0 : n == 12 ? 1 : NONE);
        }
        Check.is("the TAPE stays", x.told(11), 20);
        Check.reading(x, "");
        Check.feed(x, "a-b;");
        Check.is("find a", x.find(1), 0);
        Check.is("find a-", x.find(2), NONE);
        Check.is("find a-b", x.find(3), 2);
        Check.is("find a-b;", x.find(4), NONE);
        Check.shapes(x, "");
        Check.feed(x, " a");
        Check.is("a blank is no sign", x.find(2), NONE);
        Check.shapes(x, "");
        Check.feed(x, "A");
        Check.is("a large letter is none", x.find(1), NONE);
        Check.shapes(x, "");
        x.feed(0xE1000000, 0, 0, 0, 0);
        Check.is("225 is no a", x.find(1), NONE);
        x.feed(-1, -1, -1, -1, -1);
        Check.is("not so long", x.find(40), NONE);
        Check.is("no refusals", x.status(0) + x.status(1), 0);
    }

    /** "0 the NODE ahead (NONE), 1 its sign (0 of NODE 0), 2 the WORD that ends there (NONE), 3 LEAST (NONE ..)". */
    private static void nodeBounds() {
        MendedLetters none = new MendedLetters();
        int[] root = {NONE, 0, NONE, NONE, 0, 0};
        for (int what = 0; what < 6; what++) {
            Check.is("node(0, " + what + ") of none", none.node(0, what), root[what]);
        }
        Check.elements(none, "node(v, 0) of none", v -> none.node(v, 0), 0, 0);
        Check.arguments(none, "node(0, v) of none", v -> none.node(0, v), 0, 5);
        MendedLetters x = Check.with("ab 3;", "", "");
        int[][] due = {{NONE, 0, NONE, 3, 1, 1}, {0, 'a', NONE, 3, 1, 1}, {1, 'b', 0, 3, 0, 1}};
        for (int node = 0; node < 3; node++) {
            for (int what = 0; what < 6; what++) {
                Check.is("node(" + node + ", " + what + ")", x.node(node, what), due[node][what]);
            }
        }
        Check.elements(x, "node(v, 5)", v -> x.node(v, 5), 0, 2);
        Check.arguments(x, "node(2, v)", v -> x.node(2, v), 0, 5);
        for (int what : new int[] {-1, 6, Integer.MIN_VALUE, Integer.MAX_VALUE}) {
            Check.missing(x, "node(3, " + what + ")", () -> x.node(3, what));
            Check.missing(x, "node(-1, " + what + ")", () -> x.node(-1, what));
        }
    }

    /** "NONE: none": whatever the sign is. */
    private static void childBounds() {
        MendedLetters none = new MendedLetters();
        Check.is("child of the root", none.child(0, 'a'), NONE);
        Check.elements(none, "child(v, 97) of none", v -> none.child(v, 'a'), 0, 0);
        MendedLetters x = Check.with("a;z;m-m;", "", "");
        for (int sign = -300; sign <= 600; sign++) {
            int due = sign == 'a' ? 1 : sign == 'z' ? 2 : sign == 'm' ? 3 : NONE;
            Check.is("child(0, " + sign + ")", x.child(0, sign), due);
            Check.is("child(3, " + sign + ")", x.child(3, sign), sign == '-' ? 4 : NONE);
            Check.is("child(1, " + sign + ")", x.child(1, sign), NONE);
        }
        for (int sign : new int[] {Integer.MIN_VALUE, Integer.MAX_VALUE, 65536 + 'a', 'a' - 65536}) {
            Check.is("child(0, " + sign + ")", x.child(0, sign), NONE);
        }
        Check.elements(x, "child(v, 97)", v -> x.child(v, 'a'), 0, 5);
        Check.is("no other refusals", x.status(1), 0);
        mostChildren();
    }

    /** "each NODE has a CHILD for each sign with which a WORD goes on": 26 letters and "-" at most. */
    private static void mostChildren() {
        MendedLetters x = new MendedLetters();
        StringBuilder text = new StringBuilder("x-x;");
        for (char sign = 'a'; sign <= 'z'; sign++) {
            text.append('x').append(sign).append(';');
            Check.fine(x, "lexicon", text.toString(), sign - 'a' + 2);
            text.setLength(0);
            // NODES: x 1, - 2, x 3, then the letters
            Check.is("CHILDREN", x.node(1, 4), sign - 'a' + 2);
            Check.is("WORDS", x.node(1, 5), sign - 'a' + 2);
        }
        Check.is("the first CHILD", x.child(1, '-'), 2);
        for (char sign = 'a'; sign <= 'z'; sign++) {
            Check.is("CHILD by " + sign, x.child(1, sign), 4 + sign - 'a');
        }
    }
}
