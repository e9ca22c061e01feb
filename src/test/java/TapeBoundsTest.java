import java.util.function.IntUnaryOperator;

/** The boundary cases of the TAPE (promises 2 to 7 and 15) and of what all texts share: bytes, numbers, FAULTS. */
public final class TapeBoundsTest {
    private static final int NONE = MendedLetters.NONE;
    private static final String[] KINDS = {"lexicon", "shapes", "reading", "follows"};

    public static void main(String[] args) {
        fourHundredBytes();
        highestByteFirst();
        bytesAskedFor();
        emptyThen();
        textsOfAllBytes();
        emptyTexts();
        faultOfTheLatest();
        numbersHoweverLong();
        everyByteOfALexicon();
        everyByteOfShapes();
        everyByteOfAReading();
        everyByteOfFollows();
        endsTooEarly();
        theFirstFromTheLeft();
        theLastCall();
        Check.end("TapeBoundsTest");
    }

    private static MendedLetters withWord() {
        MendedLetters x = new MendedLetters();
        Check.lexicon(x, "a;");
        return x;
    }

    /** "NONE, doing nothing, if there would be more than 400". */
    private static void fourHundredBytes() {
        MendedLetters x = new MendedLetters();
        for (int i = 1; i <= 20; i++) {
            Check.is("feed " + i, x.feed(0x613D623B, 0x20202020, 0x20202020, 0x20202020, 0x20202020), 20 * i);
            Check.is("told(11)", x.told(11), 20 * i);
        }
        for (int i = 0; i < 3; i++) {
            Check.is("feed of a full TAPE", x.feed(-1, -1, -1, -1, -1), NONE);
            Check.is("told(11) of a full TAPE", x.told(11), 400);
        }
        Check.is("it is no refusal", x.status(0) + x.status(1), 0);
        Check.is("the bytes are those of before", x.shapes(400), 20);
        Check.is("their fault", x.fault(), NONE);
        Check.is("feed behind a text", x.feed(0, 0, 0, 0, 0), 20);
    }

    /** "Twenty bytes come on the TAPE, of each number the highest first". */
    private static void highestByteFirst() {
        MendedLetters x = new MendedLetters();
        x.feed(0x61626364, 0x65666768, 0x696A6B6C, 0x6D6E6F70, 0x71727374);
        Check.is("reading", x.reading(20), 1);
        for (int k = 0; k < 20; k++) {
            Check.is("byte " + k, x.cell(0, k, 0), 'a' + k);
        }
        for (int k = 0; k < 20; k++) {
            int[] numbers = {0x61616161, 0x61616161, 0x61616161, 0x61616161, 0x61616161};
            // 225 is a letter's byte and 128 more: a number below 0, where it stands first
            numbers[k / 4] |= 0x80 << (24 - 8 * (k % 4));
            x.feed(numbers[0], numbers[1], numbers[2], numbers[3], numbers[4]);
            Check.is("reading of a byte 225", x.reading(20), -9);
            Check.is("its place", x.fault(), k);
        }
    }

    /** "n is not 0 to the TAPE's bytes (it stays; so below)", of an empty TAPE, one of 20 bytes, one of 400. */
    private static void bytesAskedFor() {
        for (int bytes : new int[] {0, 20, 400}) {
            for (int call = 0; call < 5; call++) {
                for (int n : new int[] {-1, bytes + 1, 401, Integer.MIN_VALUE, Integer.MAX_VALUE, -400, 65536 + bytes}) {
                    MendedLetters x = withWord();
                    Check.shapes(x, "a=b 7;");
                    Check.reading(x, "a b");
                    Check.follows(x, "a a 7; ;");
                    Check.is("a FAULT", x.fault(), 7);
                    Check.feed(x, " ".repeat(bytes));
                    String before = Check.state(x);
                    IntUnaryOperator asking = ofKind(x, call);
                    Check.illegal(x, "call " + call + " of " + n, () -> asking.applyAsInt(n));
                    Check.is("the TAPE stays", x.told(11), bytes);
                    Check.is("fault() stays", x.fault(), 7);
                    Check.is("all stays", Check.state(x), before);
                }
                for (int n : new int[] {0, bytes}) {
                    MendedLetters x = withWord();
                    Check.feed(x, " ".repeat(bytes));
                    int due = call == 0 ? 1 : call == 4 ? NONE : 0;
                    Check.is("call " + call + " of " + n, ofKind(x, call).applyAsInt(n), due);
                    Check.is("the TAPE", x.told(11), call == 4 ? bytes : 0);
                    Check.is("refusals", x.status(0) + x.status(1), 0);
                }
            }
        }
    }

    private static IntUnaryOperator ofKind(MendedLetters x, int call) {
        IntUnaryOperator[] all = {x::lexicon, x::shapes, x::reading, x::follows, x::find};
        return all[call];
    }

    /** "The first n bytes of the TAPE (empty then)": all of it, behind a FAULT too. */
    private static void emptyThen() {
        for (int call = 0; call < 4; call++) {
            MendedLetters x = withWord();
            Check.feed(x, " ".repeat(400));
            ofKind(x, call).applyAsInt(1);
            Check.is("the TAPE behind the first byte of 400", x.told(11), 0);
            Check.feed(x, "]".repeat(21));
            Check.is("a FAULT", ofKind(x, call).applyAsInt(21), -9);
            Check.is("the TAPE behind a FAULT", x.told(11), 0);
            Check.illegal(x, "a byte of an empty TAPE", () -> x.reading(1));
        }
    }

    /** Texts of 400 bytes, the last of which counts. */
    private static void textsOfAllBytes() {
        Check.fine(new MendedLetters(), "lexicon", "a" + " ".repeat(398) + ";", 1);
        Check.fault(new MendedLetters(), "lexicon", "a" + " ".repeat(399), 1, 400);
        Check.fine(new MendedLetters(), "shapes", " ".repeat(396) + "a=b;", 1);
        Check.fault(new MendedLetters(), "shapes", " ".repeat(397) + "a=b", 1, 400);
        String token = "a".repeat(24) + " ";
        Check.fine(new MendedLetters(), "reading", token.repeat(15) + "a".repeat(24) + "\n", 16);
        Check.fault(new MendedLetters(), "reading", token.repeat(15) + "a".repeat(24) + "[", 1, 400);
        Check.fault(new MendedLetters(), "reading", token.repeat(15) + "a".repeat(25), 3, 399);
        Check.fine(withWord(), "follows", "a a 1;".repeat(59) + " ".repeat(40) + "a a 1;", 60);
        Check.fault(withWord(), "follows", " ".repeat(395) + "a a 1", 1, 400);
    }

    /** Of no bytes each text is a whole one: WORDS stay, SHAPES, a READING and FOLLOWS are empty ones. */
    private static void emptyTexts() {
        MendedLetters x = withWord();
        Check.shapes(x, "a=b;");
        Check.reading(x, "a");
        Check.follows(x, "a a 9;");
        Check.fine(x, "lexicon", "", 1);
        Check.is("FOLLOWS stay", x.dear(0, 0), 9);
        Check.fine(x, "shapes", "", 0);
        Check.is("SHAPES", x.told(2), 0);
        Check.fine(x, "reading", "", 0);
        Check.is("TOKENS", x.told(3), 0);
        Check.fine(x, "follows", "", 0);
        Check.is("dear", x.dear(0, 0), 0);
        MendedLetters y = new MendedLetters();
        for (String kind : KINDS) {
            Check.fine(y, kind, "", 0);
            Check.fine(y, kind, " ", 0);
        }
    }

    /** "The place of the FAULT of the latest of these four; NONE without." */
    private static void faultOfTheLatest() {
        Check.is("fault() of a new object", new MendedLetters().fault(), NONE);
        for (String first : KINDS) {
            for (String second : KINDS) {
                MendedLetters x = withWord();
                Check.fault(x, first, "   ]", 1, 3);
                Check.is("asked again", x.fault(), 3);
                x.forget();
                x.set(0, 1);
                x.feed(0, 0, 0, 0, 0);
                x.find(1);
                x.told(0);
                Check.is("of no later one", x.fault(), 3);
                Check.is("the latest", ofName(x, second, 5), -9);
                Check.is("its place", x.fault(), 0);
                Check.fine(x, second, "  ", 0);
            }
        }
    }

    private static int ofName(MendedLetters x, String kind, int n) {
        for (int call = 0; call < 4; call++) {
            if (KINDS[call].equals(kind)) {
                return ofKind(x, call).applyAsInt(n);
            }
        }
        return 0;
    }

    /** "digits, as many as stand there (one above its most is none such, however long it is)". */
    private static void numbersHoweverLong() {
        String[] ahead = {"a ", "a=b ", "a[b", "a a "};
        String[] behind = {";", ";", "]", ";"};
        // as an int that wraps around, 2^32 and 2^64 and some more are small ones
        String[] above = {"100", "101", "109", "110", "199", "200", "990", "999", "1000", "0100", "00000000000100",
            "2147483647", "2147483648", "2147483649", "4294967295", "4294967296", "4294967297", "4294967301",
            "42949672960", "9223372036854775807", "9223372036854775808", "18446744073709551615",
            "18446744073709551616", "18446744073709551617", "1".repeat(300), "9".repeat(300), "1" + "0".repeat(300)};
        for (int call = 0; call < 4; call++) {
            for (String number : above) {
                Check.fault(named(call), KINDS[call], ahead[call] + number + behind[call], 2, ahead[call].length());
                Check.fault(named(call), KINDS[call], ahead[call] + number, 2, ahead[call].length());
            }
            for (int value = 0; value <= 120; value++) {
                for (String zeros : new String[] {"", "0", "0".repeat(300)}) {
                    String text = ahead[call] + zeros + value + behind[call];
                    boolean costs = call == 1 || call == 2;
                    if (value > 99 || value == 0 && costs) {
                        Check.fault(named(call), KINDS[call], text, 2, ahead[call].length());
                    } else {
                        MendedLetters x = named(call);
                        Check.fine(x, KINDS[call], text, 1);
                        Check.is("the number of " + text, numberTold(x, call), value);
                    }
                }
            }
        }
    }

    /** FOLLOWS are of WORDS; no other text needs one. */
    private static MendedLetters named(int call) {
        return call == 3 ? withWord() : new MendedLetters();
    }

    private static int numberTold(MendedLetters x, int call) {
        switch (call) {
            case 0:
                return x.word(0, 1);
            case 1:
                return x.shape(0, 0);
            case 2:
                return x.cell(0, 0, 2);
            default:
                return x.dear(0, 0);
        }
    }

    // ---- every byte in every place of a text

    /** What is due of a text with a byte at a place: the bytes, then the answer and fault(); else FAULT 1 at it. */
    private static void everyByte(String kind, String ahead, String behind, Object... due) {
        for (int one = 0; one < 256; one++) {
            MendedLetters x = kind.equals("follows") ? withWord() : new MendedLetters();
            int answer = -9;
            int place = ahead.length();
            for (int i = due.length - 3; i >= 0; i -= 3) {
                if (((String) due[i]).indexOf(one) >= 0) {
                    answer = (Integer) due[i + 1];
                    place = (Integer) due[i + 2];
                }
            }
            String text = ahead + (char) one + behind;
            if (answer >= 0) {
                Check.fine(x, kind, text, answer);
            } else {
                Check.fault(x, kind, text, answer + 10, place);
            }
        }
    }

    private static final String LETTERS = "abcdefghijklmnopqrstuvwxyz";
    private static final String DIGITS = "0123456789";

    /** "letters: small ones"; "Blanks (32) may stand ahead of words, numbers, ";", at the end". */
    private static void everyByteOfALexicon() {
        everyByte("lexicon", "", ";", LETTERS, 1, NONE, " ", -9, 1);
        everyByte("lexicon", "a", ";", LETTERS + DIGITS + " ", 1, NONE, "-;", -9, 2);
        everyByte("lexicon", "a", "b;", LETTERS + "-", 1, NONE, ";", 2, NONE, DIGITS + " ", -9, 2);
        everyByte("lexicon", "a-", ";", LETTERS, 1, NONE, "-", -9, 3);
        everyByte("lexicon", "a ", ";", DIGITS + " ", 1, NONE, ";", -9, 3);
        everyByte("lexicon", "a 9", ";", DIGITS + " ", 1, NONE, ";", -9, 4);
        everyByte("lexicon", "a 10", ";", DIGITS, -8, 2, " ", 1, NONE, ";", -9, 5);
        everyByte("lexicon", "a 1 ", ";", " ", 1, NONE, ";", -9, 5);
        everyByte("lexicon", "a;", "", "a", -6, 2, LETTERS, -9, 3, " ", 1, NONE);
        everyByte("lexicon", "abcdefghijk", ";", LETTERS + DIGITS + " ", 1, NONE, "-;", -9, 12);
        everyByte("lexicon", "abcdefghijkl", ";", LETTERS + "-", -7, 12, DIGITS + " ", 1, NONE, ";", -9, 13);
    }

    /** "blanks likewise, but not ahead of "=""; "the two unlike". */
    private static void everyByteOfShapes() {
        everyByte("shapes", "", "=z;", "z", -9, 2, LETTERS, 1, NONE, " ", -9, 1);
        everyByte("shapes", "a", "=z;", LETTERS, 1, NONE, "=", -9, 2);
        everyByte("shapes", "ab", "=z;", LETTERS, 1, NONE, "=", -9, 3);
        everyByte("shapes", "abc", "=z;", LETTERS, -7, 3, "=", -9, 4);
        everyByte("shapes", "a=", ";", "a", -9, 2, LETTERS, 1, NONE, " ", -9, 3);
        everyByte("shapes", "a=b", ";", LETTERS + "123456789 ", 1, NONE, "0", -8, 3, ";", -9, 4);
        everyByte("shapes", "ab=a", ";", "b", -9, 3, LETTERS + "123456789 ", 1, NONE, "0", -8, 4, ";", -9, 5);
        everyByte("shapes", "a=bc", ";", LETTERS + "123456789 ", 1, NONE, "0", -8, 4, ";", -9, 5);
        everyByte("shapes", "a=bcd", ";", LETTERS, -7, 5, "123456789 ", 1, NONE, "0", -8, 5, ";", -9, 6);
        everyByte("shapes", "a=b ", ";", "123456789 ", 1, NONE, "0", -8, 4, ";", -9, 5);
        everyByte("shapes", "a=b 9", ";", DIGITS + " ", 1, NONE, ";", -9, 6);
        everyByte("shapes", "a=b 1 ", ";", " ", 1, NONE, ";", -9, 7);
        everyByte("shapes", "a=b;", "", LETTERS, -9, 5, " ", 1, NONE);
    }

    /** "a letter, and perhaps "[" { letter NUMBER } "]""; "?"; "-"; blanks and NEWLINES between. */
    private static void everyByteOfAReading() {
        everyByte("reading", "", "", LETTERS + "?-", 1, NONE, " \n", 0, NONE);
        everyByte("reading", "a", "", LETTERS + "?- \n", 1, NONE, "[", -9, 2);
        everyByte("reading", "a", "b", LETTERS + "?-", 1, NONE, " \n", 2, NONE, "[", -9, 3);
        everyByte("reading", "?", "", LETTERS + "?- \n", 1, NONE);
        everyByte("reading", "-", "", LETTERS + "?- \n", 1, NONE);
        everyByte("reading", "a[", "1]", LETTERS, 1, NONE, "]", -9, 3);
        everyByte("reading", "a[b", "]", "123456789", 1, NONE, "0", -8, 3);
        everyByte("reading", "a[b9", "]", DIGITS, 1, NONE, " ]", -9, 5);
        everyByte("reading", "a[b1", "c2]", " ", 1, NONE, DIGITS, -9, 5, "]", -9, 6);
        everyByte("reading", "a[b1 ", "c2]", " ", 1, NONE, LETTERS, -9, 6);
        everyByte("reading", "a[b1 c2 d3 ", "", LETTERS, -7, 11, " ", -9, 12);
        everyByte("reading", "a[b1]", "", LETTERS + "?- \n", 1, NONE);
        everyByte("reading", "a[]", "", LETTERS + "?- \n", 1, NONE);
        everyByte("reading", "a-\n", "", LETTERS + "? \n", 1, NONE, "-", 2, NONE);
        everyByte("reading", "a".repeat(23), "", LETTERS + "?- \n", 1, NONE, "[", -9, 24);
        everyByte("reading", "a".repeat(24), "", LETTERS + "?-", -7, 24, " \n", 1, NONE, "[", -9, 25);
        everyByte("reading", "a ".repeat(39), "", LETTERS + "?-", 40, NONE, " \n", 39, NONE);
        everyByte("reading", "a ".repeat(40), "", LETTERS + "?-", -7, 80, " \n", 40, NONE);
    }

    /** "blanks as in a LEXICON, one at least between the two WORDS"; the only WORD is a. */
    private static void everyByteOfFollows() {
        everyByte("follows", "", " a 1;", "a", 1, NONE, LETTERS, -5, 0, " ", -9, 4);
        everyByte("follows", "a", " a 1;", LETTERS + "-", -5, 0, " ", 1, NONE);
        everyByte("follows", "a", "a 1;", LETTERS + "-", -5, 0, " ", 1, NONE);
        everyByte("follows", "a ", " 1;", "a", 1, NONE, LETTERS, -5, 2, " ", -9, 4);
        everyByte("follows", "a a", "1;", LETTERS + "-", -5, 2, DIGITS + " ", 1, NONE);
        everyByte("follows", "a a ", ";", DIGITS, 1, NONE, " ", -9, 5);
        everyByte("follows", "a a 9", ";", DIGITS + " ", 1, NONE, ";", -9, 6);
        everyByte("follows", "a a 9 ", ";", " ", 1, NONE, ";", -9, 7);
        everyByte("follows", "a a 1;", "", "a", -9, 7, LETTERS, -5, 6, " ", 1, NONE);
        everyByte("follows", "a a1;".repeat(59), "", "a", -9, 296, LETTERS, -5, 295, " ", 59, NONE);
        everyByte("follows", "a a1;".repeat(60), "", LETTERS, -7, 300, " ", 60, NONE);
    }

    // ---- which FAULT

    /** "1 what can't stand there (at the length, if the text ends too early)": every beginning of whole texts. */
    private static void endsTooEarly() {
        beginnings("lexicon", " a 12 ; b-c;d 0; ", " ", "0", " a 12 ;", "1", " a 12 ; ", "1", " a 12 ; b-c;", "2",
                " a 12 ; b-c;d 0;", "3", " a 12 ; b-c;d 0; ", "3");
        beginnings("shapes", " ab= c 12 ;d=efg; ", " ", "0", " ab= c 12 ;", "1", " ab= c 12 ;d=efg;", "2",
                " ab= c 12 ;d=efg; ", "2");
        beginnings("reading", "a[b1  c23]?-\nd", "a", "1", "a[b1  c23]", "1", "a[b1  c23]?", "1", "a[b1  c23]?-", "1",
                "a[b1  c23]?-\n", "1", "a[b1  c23]?-\nd", "1");
        beginnings("follows", " a  a 12 ;a a0; ", " ", "0", " a  a 12 ;", "1", " a  a 12 ;a a0;", "2",
                " a  a 12 ;a a0; ", "2");
        // a text that is nothing but its end: what stands behind it on the TAPE does not count
        MendedLetters x = new MendedLetters();
        Check.feed(x, "ab;");
        Check.is("lexicon of its first two bytes", x.lexicon(2), -9);
        Check.is("its place", x.fault(), 2);
    }

    private static void beginnings(String kind, String text, String... whole) {
        for (int n = 1; n <= text.length(); n++) {
            String beginning = text.substring(0, n);
            int due = -9;
            for (int i = 0; i < whole.length; i += 2) {
                due = whole[i].equals(beginning) ? Integer.parseInt(whole[i + 1]) : due;
            }
            MendedLetters x = kind.equals("follows") ? withWord() : new MendedLetters();
            if (due >= 0) {
                Check.fine(x, kind, beginning, due);
            } else {
                Check.fault(x, kind, beginning, 1, n);
            }
        }
    }

    /** "FAULTS of a text, the first from the left": two in one text, each kind ahead of each other one. */
    private static void theFirstFromTheLeft() {
        String[] words = {"A;", "b 100;", "abcdefghijklm;", "a;"};
        int[] numbers = {1, 2, 3, 4};
        int[] places = {0, 2, 12, 0};
        for (int i = 0; i < 4; i++) {
            for (String other : words) {
                Check.fault(withWord(), "lexicon", "c; " + words[i] + other, numbers[i], 3 + places[i]);
            }
        }
        String[] shapes = {"a==b;", "a=a;", "a=b 0;", "abcd=e;", "a=bcde;"};
        int[] shapeNumbers = {1, 1, 2, 3, 3};
        int[] shapePlaces = {2, 2, 4, 3, 5};
        for (int i = 0; i < 5; i++) {
            for (String other : shapes) {
                Check.fault(withWord(), "shapes", "c=d; " + shapes[i] + other, shapeNumbers[i], 5 + shapePlaces[i]);
            }
        }
        String[] tokens = {"a] ", "a[b0] ", "a[b1 c1 d1 e1] ", "a".repeat(25) + " "};
        int[] tokenNumbers = {1, 2, 3, 3};
        int[] tokenPlaces = {1, 3, 11, 24};
        for (int i = 0; i < 4; i++) {
            for (String other : tokens) {
                Check.fault(withWord(), "reading", "c " + tokens[i] + other, tokenNumbers[i], 2 + tokenPlaces[i]);
            }
        }
        String[] pairs = {"a a a;", "a a 100;", "a b 1;", "b a 1;"};
        int[] pairNumbers = {1, 2, 5, 5};
        int[] pairPlaces = {4, 4, 2, 0};
        for (int i = 0; i < 4; i++) {
            for (String other : pairs) {
                Check.fault(withWord(), "follows", "a a 1; " + pairs[i] + other, pairNumbers[i], 7 + pairPlaces[i]);
            }
        }
    }

    /** "An object is used for at most 512 calls": the last of them still answers. */
    private static void theLastCall() {
        MendedLetters x = new MendedLetters();
        x.feed(0x613B0000, 0, 0, 0, 0);
        x.lexicon(2);
        x.feed(0x61000000, 0, 0, 0, 0);
        x.reading(1);
        for (int i = 5; i < 512; i++) {
            Check.is("weigh of call " + i, x.weigh(0, i % 2), (i + 1) % 2 * (i == 5 ? 0 : 1));
        }
        Check.is("the 512th call", x.mended(0, 1), 1);
    }
}
