/** Promises 1 to 9 and 12: the TAPE, the four texts and their FAULTS, the costs. */
public final class TextsTest {
    private static final int NONE = MendedLetters.NONE;

    public static void main(String[] args) {
        promise1();
        promise2();
        promise3();
        promise3Faults();
        promise4();
        promise4Faults();
        promise5();
        promise5Faults();
        promise6();
        promise7();
        promise7Faults();
        promise8();
        promise9();
        promise12();
        Check.end("TextsTest");
    }

    private static void promise1() {
        MendedLetters x = new MendedLetters();
        int[] due = {0, 1, 0, 0, 0, 20, 2, 4, 3, 1, 8, 0, 0};
        for (int what = 0; what < due.length; what++) {
            Check.is("told(" + what + ") of a new object", x.told(what), due[what]);
        }
        Check.is("NONE", MendedLetters.NONE, -1);
        Check.is("fault() of a new object", x.fault(), NONE);
        Check.is("text(0)", x.text(0), 0);
        Check.is("text(1)", x.text(1), 0);
        Check.is("text(2)", x.text(2), 0);
        Check.is("text(3)", x.text(3), 0);
        Check.is("sentence(0)", x.sentence(0), 0);
        Check.is("sentence(1)", x.sentence(1), 0);
        Check.is("sentence(2)", x.sentence(2), 0);
        Check.is("twins(999)", x.twins(999), 0);
        Check.is("status(0)", x.status(0), 0);
        Check.is("status(1)", x.status(1), 0);
    }

    private static void promise2() {
        MendedLetters x = new MendedLetters();
        Check.is("feed", x.feed(0x61626364, 0x65666768, 0x696A6B6C, 0xFF00FF00, 0), 20);
        Check.is("told(11)", x.told(11), 20);
        for (int i = 2; i <= 20; i++) {
            Check.is("feed " + i, x.feed(0, 0, 0, 0, 0), 20 * i);
        }
        Check.is("feed above 400", x.feed(1, 2, 3, 4, 5), NONE);
        Check.is("told(11) full", x.told(11), 400);
        Check.is("lexicon of too early an end", x.lexicon(12), -9);
        Check.is("its fault", x.fault(), 12);
        // of each number the highest byte first
        x.feed(0x6162633B, 0x64653B20, 0, 0, 0);
        Check.is("lexicon", x.lexicon(8), 2);
        Check.is("sign(0, 0)", x.sign(0, 0), 'a');
        Check.is("sign(0, 2)", x.sign(0, 2), 'c');
        Check.is("sign(1, 1)", x.sign(1, 1), 'e');
        Check.is("refusals", x.status(0) + x.status(1), 0);
    }

    private static void promise3() {
        MendedLetters x = new MendedLetters();
        Check.is("lexicon", Check.lexicon(x, "  cat 3;dog; a-b 007  ;  x0;  "), 4);
        Check.is("fault", x.fault(), NONE);
        Check.is("the TAPE is empty", x.told(11), 0);
        Check.is("weights", x.word(0, 1), 3);
        Check.is("weights", x.word(1, 1), 0);
        Check.is("weights", x.word(2, 1), 7);
        Check.is("weights", x.word(3, 1), 0);
        Check.is("more words", Check.lexicon(x, "do99;"), 5);
        Check.is("the new one's number", x.word(4, 1), 99);
        Check.is("its node", x.word(4, 2), 5);
        Check.is("an empty text", x.lexicon(0), 5);
        Check.is("signs", Check.lexicon(x, "a--b;abcdefghijkl;"), 7);
        Check.is("twelve signs", x.word(6, 0), 12);
        Check.feed(x, "cow;");
        Check.illegal(x, "lexicon(-1)", () -> x.lexicon(-1));
        Check.illegal(x, "lexicon(21)", () -> x.lexicon(21));
        Check.is("the TAPE stays", x.told(11), 20);
        Check.is("n less than the TAPE", x.lexicon(4), 8);
        Check.is("the whole TAPE is gone", x.told(11), 0);
    }

    private static void promise3Faults() {
        fault("Cat;", 1, 0);
        fault("cat", 1, 3);
        fault("cat  ", 1, 5);
        fault("cat 3", 1, 5);
        fault("cat dog;", 1, 4);
        fault("cat 3 4;", 1, 6);
        fault("cat3x;", 1, 4);
        fault(";", 1, 0);
        fault("cat;;", 1, 4);
        fault("-a;", 1, 0);
        fault("a-;", 1, 2);
        fault("a-", 1, 2);
        fault("a- ;", 1, 2);
        fault("a-3;", 1, 2);
        fault("cat\n;", 1, 3);
        fault("{;", 1, 0);
        fault("`;", 1, 0);
        fault("az{;", 1, 2);
        fault("cat 100;", 2, 4);
        fault("cat 4294967297;", 2, 4);
        fault("cat 99999999999999999999999;", 2, 4);
        fault("cat 100", 2, 4);
        fault("abcdefghijklm;", 3, 12);
        fault("abcdefghijkl-;", 3, 12);
        fault("abcdefghijk-m;", 3, 12, "abcdefghijk-mn;");
        fault("abcdefghijk-;", 1, 12);
        fault("cat;dog;cat;", 4, 8);
        fault("cat;cat 100;", 4, 4);
        fault("cat;cat", 4, 4);
        fault("cat;cat-;", 1, 8);
        MendedLetters x = new MendedLetters();
        Check.lexicon(x, "cat 5;");
        Check.is("a WORD of an earlier text", Check.lexicon(x, "dog; cat;"), -6);
        Check.is("its place", x.fault(), 5);
        Check.is("all stays", x.told(0), 1);
        Check.is("all stays", x.told(1), 4);
        Check.feed(x, "cow    ;");
        Check.is("blanks behind the text are none of it", x.lexicon(3), -9);
        Check.is("its place", x.fault(), 3);
        Check.feed(x, "cow 123;");
        Check.is("digits behind the text are none of it", x.lexicon(6), -9);
        Check.is("its place", x.fault(), 6);
        Check.is("a 00..0 in front", Check.lexicon(x, "dog 00000000000000000000099;"), 2);
        tooManyWords();
    }

    private static void tooManyWords() {
        MendedLetters x = new MendedLetters();
        StringBuilder text = new StringBuilder();
        for (int i = 0; i < 60; i++) {
            text.append((char) ('a' + i / 26)).append((char) ('a' + i % 26)).append(';');
        }
        Check.is("61 WORDS", Check.lexicon(x, text + "zz;"), -7);
        Check.is("the 61st", x.fault(), 180);
        Check.is("60 WORDS", Check.lexicon(x, text.toString()), 60);
        Check.is("blanks alone", Check.lexicon(x, "   "), 60);
        Check.is("a 61st", Check.lexicon(x, "  zz;"), -7);
        Check.is("at its first byte", x.fault(), 2);
        Check.is("a 61st that is told again", Check.lexicon(x, "aa;"), -7);
        Check.is("what begins no word", Check.lexicon(x, "A"), -9);
        Check.is("they stay", x.told(0), 60);
        Check.is("nodes", x.told(1), 1 + 3 + 60);
    }

    private static void fault(String text, int number, int place, String... same) {
        faultOf("lexicon", text, number, place);
        for (String one : same) {
            faultOf("lexicon", one, number, place);
        }
    }

    /** The FAULT of a text, told to an object that has some of each kind: all stays. */
    private static void faultOf(String kind, String text, int number, int place) {
        MendedLetters x = new MendedLetters();
        if (!kind.equals("lexicon")) {
            Check.lexicon(x, "ab 4; ac;");
        }
        Check.shapes(x, "ab=c 9;");
        Check.reading(x, "ab\nb");
        if (!kind.equals("lexicon")) {
            Check.follows(x, "ab ac 7;");
        }
        Check.feed(x, text);
        int got;
        switch (kind) {
            case "lexicon":
                got = x.lexicon(text.length());
                break;
            case "shapes":
                got = x.shapes(text.length());
                break;
            case "reading":
                got = x.reading(text.length());
                break;
            default:
                got = x.follows(text.length());
                break;
        }
        String name = kind + " \"" + text.replace("\n", "\\n") + "\"";
        Check.is(name, got, number - 10);
        Check.is("fault() of " + name, x.fault(), place);
        Check.is("the TAPE behind " + name, x.told(11), 0);
        Check.is("WORDS behind " + name, x.told(0), kind.equals("lexicon") ? 0 : 2);
        Check.is("NODES behind " + name, x.told(1), kind.equals("lexicon") ? 1 : 4);
        Check.is("SHAPES behind " + name, x.told(2), 1);
        Check.is("a SHAPE behind " + name, x.shape(0, 0), 9);
        Check.is("TOKENS behind " + name, x.told(3), 2);
        Check.is("LINES behind " + name, x.told(4), 2);
        Check.is("a CELL behind " + name, x.cell(0, 1, 0), 'b');
        if (!kind.equals("lexicon")) {
            Check.is("FOLLOWS behind " + name, x.dear(0, 1), 7);
        }
        Check.is("status(0) behind " + name, x.status(0), 0);
        Check.is("status(1) behind " + name, x.status(1), 0);
    }

    private static void promise4() {
        MendedLetters x = new MendedLetters();
        Check.is("shapes", Check.shapes(x, " rn=m 2;cl= d3 ;abc=  def  ; "), 3);
        Check.is("cost", x.shape(0, 0), 2);
        Check.is("cost", x.shape(1, 0), 3);
        Check.is("cost without", x.shape(2, 0), 5);
        Check.is("the TAPE is empty", x.told(11), 0);
        Check.is("in place of those", Check.shapes(x, "a=b99;"), 1);
        Check.is("cost", x.shape(0, 0), 99);
        Check.is("parts of unlike length", Check.shapes(x, "a=aa;aa=a;"), 2);
        Check.is("a shape told twice", Check.shapes(x, "a=b 1;a=b 1;"), 2);
        Check.is("parts unlike at the end", Check.shapes(x, "abx=aby;abc=abd;"), 2);
        Check.is("parts alike, where unlike ones stood", Check.shapes(x, "ab=ab;"), -9);
        Check.is("they stay", x.told(2), 2);
        Check.feed(x, "a=c;");
        Check.illegal(x, "shapes(-1)", () -> x.shapes(-1));
        Check.illegal(x, "shapes(21)", () -> x.shapes(21));
        Check.is("the TAPE stays", x.told(11), 20);
        Check.is("the SHAPES stay", x.told(2), 2);
        Check.is("none", x.shapes(0), 0);
        Check.is("none", x.told(2), 0);
    }

    private static void promise4Faults() {
        faultOf("shapes", "rn=rn;", 1, 3);
        faultOf("shapes", "rn= rn 100", 1, 4);
        faultOf("shapes", "abc=abcd;", 3, 7);
        faultOf("shapes", "rn m;", 1, 2);
        faultOf("shapes", "rn =m;", 1, 2);
        faultOf("shapes", "=m;", 1, 0);
        faultOf("shapes", "rn=;", 1, 3);
        faultOf("shapes", "rn= ;", 1, 4);
        faultOf("shapes", "rn=", 1, 3);
        faultOf("shapes", "rn", 1, 2);
        faultOf("shapes", "rn=m", 1, 4);
        faultOf("shapes", "rn=m 2", 1, 6);
        faultOf("shapes", "r-=m;", 1, 1);
        faultOf("shapes", "a=b 1 2;", 1, 6);
        faultOf("shapes", "a=b;?", 1, 4);
        faultOf("shapes", "abcd=e;", 3, 3);
        faultOf("shapes", "a=bcde;", 3, 5);
        faultOf("shapes", "a=b 0;", 2, 4);
        faultOf("shapes", "a=b 000;", 2, 4);
        faultOf("shapes", "a=b 100;", 2, 4);
        faultOf("shapes", "a=b 18446744073709551617;", 2, 4);
        StringBuilder twenty = new StringBuilder();
        for (int i = 0; i < 20; i++) {
            twenty.append("a=b;");
        }
        MendedLetters x = new MendedLetters();
        Check.is("20 SHAPES", Check.shapes(x, twenty.toString()), 20);
        faultOf("shapes", twenty + " a=a;", 3, 81);
        faultOf("shapes", twenty + "=", 1, 80);
    }

    private static void promise5() {
        MendedLetters x = new MendedLetters();
        Check.is("reading", Check.reading(x, " \n ab[c1 d99]?-\n\nq[] z[a1  b2   c3] "), 3);
        Check.is("LINES", x.told(4), 4);
        Check.is("the TAPE is empty", x.told(11), 0);
        Check.is("cells", x.token(0, 0), 4);
        Check.is("others", x.cell(0, 1, 1), 2);
        Check.is("others", x.cell(2, 0, 1), 3);
        Check.is("in place of that", Check.reading(x, "a"), 1);
        Check.is("LINES", x.told(4), 1);
        Check.is("a BREAK ahead", Check.reading(x, "-\na"), 1);
        Check.is("its CELLS", x.token(0, 0), 2);
        Check.is("a HYPHEN, no BREAK", Check.reading(x, "a-\n-a"), 2);
        Check.is("a HYPHEN, no BREAK", Check.reading(x, "a-\n a"), 2);
        Check.is("a HYPHEN, no BREAK", Check.reading(x, "a-\n\na"), 2);
        Check.is("a HYPHEN at the end", Check.reading(x, "a-\n"), 1);
        Check.is("a BREAK ahead of a BLOT", Check.reading(x, "a-\n?"), 1);
        Check.is("a BREAK behind others", Check.reading(x, "a[b1]-\nb"), 1);
        Check.is("its CELLS", x.token(0, 0), 3);
        Check.feed(x, "a-\nb");
        Check.is("what stands behind the text is none of it", x.reading(3), 1);
        Check.is("so it is no BREAK", x.token(0, 2), 0);
        Check.feed(x, "a b");
        Check.illegal(x, "reading(-1)", () -> x.reading(-1));
        Check.illegal(x, "reading(21)", () -> x.reading(21));
        Check.is("the TAPE stays", x.told(11), 20);
        Check.is("the READING stays", x.told(3), 1);
        Check.is("an empty text", x.reading(0), 0);
        Check.is("has one LINE", x.told(4), 1);
        Check.is("blanks alone", Check.reading(x, "  \n "), 0);
        Check.is("24 CELLS", Check.reading(x, "abcdefghijkl?-abcdefghi-\n[b"), -9);
        Check.is("24 CELLS", Check.reading(x, "abcdefghijkl?-abcdefghi-\n "), 1);
        Check.is("24 CELLS", Check.reading(x, "aaaaaaaaaaaaaaaaaaaaaaaa[b1]"), 1);
        Check.is("40 TOKENS", Check.reading(x, "a ".repeat(40) + "\n"), 40);
    }

    private static void promise5Faults() {
        faultOf("reading", "ab1", 1, 2);
        faultOf("reading", "A", 1, 0);
        faultOf("reading", "a]", 1, 1);
        faultOf("reading", "[b1]", 1, 0);
        faultOf("reading", "?[b1]", 1, 1);
        faultOf("reading", "-[b1]", 1, 1);
        faultOf("reading", "a[b1][c2]", 1, 5);
        faultOf("reading", "a[", 1, 2);
        faultOf("reading", "a[b", 1, 3);
        faultOf("reading", "a[b1", 1, 4);
        faultOf("reading", "a[b1 ", 1, 5);
        faultOf("reading", "a[b]", 1, 3);
        faultOf("reading", "a[b 1]", 1, 3);
        faultOf("reading", "a[ b1]", 1, 2);
        faultOf("reading", "a[1]", 1, 2);
        faultOf("reading", "a[b1 ]", 1, 5);
        faultOf("reading", "a[b1c2]", 1, 4);
        faultOf("reading", "a[b1\nc2]", 1, 4);
        faultOf("reading", "a[b1 c2 d3 ]", 1, 11);
        faultOf("reading", "a[b1 c2 d3e4]", 1, 10);
        faultOf("reading", "a[?1]", 1, 2);
        faultOf("reading", "a[b0]", 2, 3);
        faultOf("reading", "a[b100]", 2, 3);
        faultOf("reading", "a[b99999999999", 2, 3);
        faultOf("reading", "a[b1 c2 d3 e4]", 3, 11);
        faultOf("reading", "a".repeat(25), 3, 24);
        faultOf("reading", "a".repeat(24) + "-\nb", 3, 24);
        faultOf("reading", "a".repeat(23) + "-\nb", 3, 25);
        faultOf("reading", "a ".repeat(40) + "?", 3, 80);
        faultOf("reading", "a ".repeat(40) + "[", 1, 80);
        faultOf("reading", "a\tb", 1, 1);
    }

    private static void promise6() {
        MendedLetters x = new MendedLetters();
        Check.lexicon(x, "cat dog");
        Check.is("of lexicon", x.fault(), 4);
        Check.is("find(0)", x.find(0), NONE);
        Check.is("find is none of the four", x.fault(), 4);
        Check.illegal(x, "shapes(1)", () -> x.shapes(1));
        Check.is("a refused call read no text", x.fault(), 4);
        Check.shapes(x, "a=b;");
        Check.is("the latest had none", x.fault(), NONE);
        Check.shapes(x, " a=a;");
        Check.is("of shapes", x.fault(), 3);
        Check.reading(x, "aA");
        Check.is("of reading", x.fault(), 1);
        Check.follows(x, "  cat cat 1;");
        Check.is("of follows", x.fault(), 2);
        x.follows(0);
        Check.is("none", x.fault(), NONE);
    }

    private static void promise7() {
        MendedLetters x = new MendedLetters();
        Check.lexicon(x, "a; b; c-d;");
        Check.is("follows", Check.follows(x, " a b 3;b  a0 ;c-d   c-d  99 ; a c-d 00007; "), 4);
        Check.is("dear", x.dear(0, 1), 3);
        Check.is("dear", x.dear(1, 0), 0);
        Check.is("dear", x.dear(2, 2), 99);
        Check.is("dear", x.dear(0, 2), 7);
        Check.is("the TAPE is empty", x.told(11), 0);
        Check.is("told twice", Check.follows(x, "a b 3; a b 8;"), 2);
        Check.is("the last counts", x.dear(0, 1), 8);
        Check.is("in place of those", x.dear(2, 2), 0);
        Check.is("60", Check.follows(x, "a b 1;".repeat(59) + "b b 2;"), 60);
        Check.is("more WORDS, and the FOLLOWS stay", Check.lexicon(x, "e;"), 4);
        Check.is("dear", x.dear(1, 1), 2);
        Check.feed(x, "a b 3;");
        Check.illegal(x, "follows(-1)", () -> x.follows(-1));
        Check.illegal(x, "follows(21)", () -> x.follows(21));
        Check.is("the TAPE stays", x.told(11), 20);
        Check.is("they stay", x.dear(1, 1), 2);
        Check.is("none", x.follows(0), 0);
        Check.is("none", x.dear(1, 1), 0);
    }

    private static void promise7Faults() {
        faultOf("follows", "ab", 1, 2);
        faultOf("follows", "ab ", 1, 3);
        faultOf("follows", "ab ac", 1, 5);
        faultOf("follows", "ab ac;", 1, 5);
        faultOf("follows", "ab ac 3", 1, 7);
        faultOf("follows", "ab;", 1, 2);
        faultOf("follows", "ab3 ac 3;", 1, 2);
        faultOf("follows", "ab 3;", 1, 3);
        faultOf("follows", "ab -ac 3;", 1, 3);
        faultOf("follows", "-ab ac 3;", 1, 0);
        faultOf("follows", "ab ac ab 3;", 1, 6);
        faultOf("follows", "ab ac 3 4;", 1, 8);
        faultOf("follows", ";", 1, 0);
        faultOf("follows", "ab ac 100;", 2, 6);
        faultOf("follows", "ab ac100", 2, 5);
        faultOf("follows", "abc ac 3;", 5, 0);
        faultOf("follows", "a ac 3;", 5, 0);
        faultOf("follows", "ab- ac 3;", 5, 0);
        faultOf("follows", "ab  ad 3;", 5, 4);
        faultOf("follows", "ab " + "x".repeat(40) + " 3;", 5, 3);
        faultOf("follows", "abc", 5, 0);
        faultOf("follows", "ab ac 3;".repeat(5) + " ac ", 1, 44);
        faultOf("follows", "ab ab1;".repeat(10) + "ab ac 1;".repeat(10) + "ac ac 1;".repeat(10)
                + "ac x 1;", 5, 233);
        MendedLetters x = new MendedLetters();
        Check.lexicon(x, "a;");
        Check.is("a 61st", Check.follows(x, "a a 1;".repeat(60) + " a a 1;"), -7);
        Check.is("at its first byte", x.fault(), 361);
        Check.is("a 61st of no WORD", Check.follows(x, "a a 1;".repeat(60) + "b a 1;"), -7);
        Check.is("what begins none", Check.follows(x, "a a 1;".repeat(60) + "-"), -9);
        Check.is("none are told", x.dear(0, 0), 0);
    }

    private static void promise8() {
        MendedLetters x = new MendedLetters();
        Check.is("forget none", x.forget(), 0);
        Check.lexicon(x, "a 3; b; ab;");
        Check.follows(x, "a b 9; b a 8;");
        Check.shapes(x, "a=b;");
        Check.reading(x, "a b");
        Check.is("the sentence", x.sentence(0), 5);
        Check.is("forget", x.forget(), 3);
        Check.is("WORDS", x.told(0), 0);
        Check.is("NODES", x.told(1), 1);
        Check.is("SHAPES stay", x.told(2), 1);
        Check.is("the READING stays", x.told(3), 2);
        Check.is("CHILDREN of the root", x.node(0, 4), 0);
        Check.is("WORDS through the root", x.node(0, 5), 0);
        Check.is("LEAST of the root", x.node(0, 3), NONE);
        Check.is("no child", x.child(0, 'a'), NONE);
        Check.is("all are OUTSIDE", x.text(3), 2);
        Check.missing(x, "dear(0, 1)", () -> x.dear(0, 1));
        Check.is("the same WORDS again", Check.lexicon(x, "b; a;"), 2);
        Check.is("without FOLLOWS", x.dear(0, 1), 0);
        Check.is("without FOLLOWS", x.dear(1, 0), 0);
        Check.is("their nodes", x.word(0, 2), 1);
        Check.is("forget", x.forget(), 2);
    }

    private static void promise9() {
        MendedLetters x = new MendedLetters();
        int[] first = {20, 2, 4, 3, 1, 8, 0};
        int[] asked = {5, 6, 7, 8, 9, 10, 12};
        for (int i = 0; i < 7; i++) {
            int what = i;
            int most = what == 0 ? 999 : 99;
            Check.is("set(" + what + ", most)", x.set(what, most), first[what]);
            Check.is("told", x.told(asked[what]), most);
            Check.illegal(x, "set(" + what + ", most + 1)", () -> x.set(what, most + 1));
            Check.illegal(x, "set(" + what + ", -1)", () -> x.set(what, -1));
            Check.is("told", x.told(asked[what]), most);
            Check.is("set(" + what + ", 0)", x.set(what, 0), most);
            Check.is("told", x.told(asked[what]), 0);
        }
        Check.illegal(x, "set(7, 0)", () -> x.set(7, 0));
        Check.illegal(x, "set(-1, 0)", () -> x.set(-1, 0));
        Check.illegal(x, "set(least, 0)", () -> x.set(Integer.MIN_VALUE, 0));
        Check.illegal(x, "set(most, 0)", () -> x.set(Integer.MAX_VALUE, 0));
    }

    private static void promise12() {
        MendedLetters x = Check.with("ab 3; ac; b;", "a=b; b=c;", "ab\nc\n");
        x.feed(0, 0, 0, 0, 0);
        x.set(0, 31);
        x.set(1, 32);
        x.set(2, 33);
        x.set(3, 34);
        x.set(4, 35);
        x.set(5, 36);
        x.set(6, 37);
        int[] due = {3, 5, 2, 2, 3, 31, 32, 33, 34, 35, 36, 20, 37};
        for (int what = 0; what < due.length; what++) {
            Check.is("told(" + what + ")", x.told(what), due[what]);
        }
        Check.illegal(x, "told(-1)", () -> x.told(-1));
        Check.illegal(x, "told(13)", () -> x.told(13));
    }
}
