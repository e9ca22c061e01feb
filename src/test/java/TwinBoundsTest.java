/** The boundary cases of how far WORDS are from one another (promises 35 to 37). */
public final class TwinBoundsTest {
    private static final int NONE = MendedLetters.NONE;

    public static void main(String[] args) {
        toItself();
        theyCant();
        readSurely();
        specks();
        farthest();
        apartBounds();
        noTwin();
        alikeOnes();
        twinBounds();
        pairs();
        soMuchAtMost();
        twinsBounds();
        sixtyWords();
        Check.end("TwinBoundsTest");
    }

    /** A WORD's signs are its own at no COST. */
    private static void toItself() {
        MendedLetters x = Check.with("a 99; a-b 5; abcdefghijkl;", "a=b 1;", "");
        for (int word = 0; word < 3; word++) {
            Check.is("apart(" + word + ", " + word + ")", x.apart(word, word), 0);
        }
        x.set(3, 0);
        Check.is("apart(1, 1)", x.apart(1, 1), 0);
        Check.is("a WORD is not its own twin", x.twin(0, 0), NONE);
        Check.is("nor a pair", x.twins(999), 0);
    }

    /** "NONE: they can't". */
    private static void theyCant() {
        MendedLetters x = Check.with("a; b; ab; abc;", "", "");
        for (int word = 0; word < 4; word++) {
            for (int other = 0; other < 4; other++) {
                Check.is("apart(" + word + ", " + other + ")", x.apart(word, other), word == other ? 0 : NONE);
            }
        }
        Check.shapes(x, "a=b 99;");
        Check.is("a for b", x.apart(0, 1), 99);
        Check.is("b for a", x.apart(1, 0), NONE);
        // one letter too many, one too few
        Check.shapes(x, "a=ab 1; abc=ab 2; ab=a 3; bc=b 4;");
        Check.is("a for ab", x.apart(0, 2), 1);
        Check.is("abc for ab", x.apart(3, 2), 2);
        Check.is("ab for a", x.apart(2, 0), 3);
        Check.is("abc for a", x.apart(3, 0), NONE);
        Check.is("ab for abc", x.apart(2, 3), NONE);
    }

    /** "read surely": no WEIGHT counts, no other letters, no BLOTS, no KEPT. */
    private static void readSurely() {
        MendedLetters x = Check.with("aa 99; bb 99;", "a=b 7;", "a[b1]a ?? aa");
        Check.is("apart", x.apart(0, 1), 14);
        Check.is("apart, asked behind a TOKEN", x.price(0, 1) - x.price(0, 1) + x.apart(0, 1), 14);
        x.weigh(0, 0);
        x.weigh(1, 0);
        x.set(2, 0);
        x.set(4, 0);
        Check.is("apart", x.apart(0, 1), 14);
        Check.is("apart", x.apart(1, 0), NONE);
        Check.reading(x, "");
        Check.is("apart", x.apart(0, 1), 14);
        // though all TOKENS were looked for, alone and two as LOST
        MendedLetters y = Check.with("aa; ab; bb; ba;", "a=b 7;", "a\n".repeat(40));
        Check.is("LOST", y.text(2), 20);
        int[][] due = {{0, 7, 14, 7}, {NONE, 0, 7, NONE}, {NONE, NONE, 0, NONE}, {NONE, NONE, 7, 0}};
        for (int word = 0; word < 4; word++) {
            for (int other = 0; other < 4; other++) {
                Check.is("apart(" + word + ", " + other + ")", y.apart(word, other), due[word][other]);
            }
        }
    }

    /** ""-" as a SPECK". */
    private static void specks() {
        MendedLetters x = Check.with("ab; a-b; a--b; ba;", "ab=ba 1;", "");
        int[][] due = {{0, NONE, NONE, 1}, {3, 0, NONE, NONE}, {6, 3, 0, NONE}, {NONE, NONE, NONE, 0}};
        for (int word = 0; word < 4; word++) {
            for (int other = 0; other < 4; other++) {
                Check.is("apart(" + word + ", " + other + ")", x.apart(word, other), due[word][other]);
            }
        }
        // no SHAPE over a "-", though it were a SPECK
        Check.is("a-b for ba", x.apart(1, 3), NONE);
        x.set(3, 99);
        Check.is("two dear SPECKS", x.apart(2, 0), 198);
        x.set(3, 0);
        Check.is("two SPECKS for nothing", x.apart(2, 0), 0);
        Check.is("twin of a--b", x.twin(2, 0), 0);
        Check.is("how much", x.twin(2, 1), 0);
        Check.is("twins(0)", x.twins(0), 3);
    }

    private static void farthest() {
        MendedLetters x = Check.with("aaaaaaaaaaaa; bbbbbbbbbbbb; a----------a; aa;", "a=b 99;", "");
        x.set(3, 99);
        Check.is("twelve SHAPES", x.apart(0, 1), 12 * 99);
        Check.is("ten SPECKS", x.apart(2, 3), 990);
        Check.is("twin", x.twin(0, 0), 1);
        Check.is("how much, above 999", x.twin(0, 1), 1188);
        Check.is("twins(999)", x.twins(999), 1);
        Check.is("twins(990)", x.twins(990), 1);
        Check.is("twins(989)", x.twins(989), 0);
    }

    private static void apartBounds() {
        MendedLetters none = new MendedLetters();
        Check.missing(none, "apart(0, 0)", () -> none.apart(0, 0));
        MendedLetters x = Check.with("a; b;", "", "");
        Check.elements(x, "apart(v, 0)", v -> x.apart(v, 0), 0, 1);
        Check.elements(x, "apart(0, v)", v -> x.apart(0, v), 0, 1);
        Check.missing(x, "apart(2, 2)", () -> x.apart(2, 2));
        Check.missing(x, "apart(-1, -1)", () -> x.apart(-1, -1));
        Check.is("no other refusals", x.status(1), 0);
    }

    private static void twin(MendedLetters x, int word, int other, int much) {
        Check.is("twin(" + word + ", 0)", x.twin(word, 0), other);
        Check.is("twin(" + word + ", 1)", x.twin(word, 1), much);
    }

    /** "(what 0; NONE), how much (1; NONE)". */
    private static void noTwin() {
        MendedLetters x = Check.with("a;", "a=b 1;", "");
        twin(x, 0, NONE, NONE);
        Check.lexicon(x, "b;");
        twin(x, 0, 1, 1);
        twin(x, 1, NONE, NONE);
        Check.shapes(x, "");
        twin(x, 0, NONE, NONE);
    }

    /** "of alike ones the first". */
    private static void alikeOnes() {
        MendedLetters x = Check.with("c; b; a; d;", "a=c 2; a=b 2; a=d 2;", "");
        twin(x, 2, 0, 2);
        Check.shapes(x, "a=d 2; a=b 2; a=c 3;");
        twin(x, 2, 1, 2);
        Check.shapes(x, "a=d 2; a=b 3; a=c 3;");
        twin(x, 2, 3, 2);
        Check.shapes(x, "a=d 2; a=b 2; a=c 1;");
        twin(x, 2, 0, 1);
        // WEIGHTS do not matter
        Check.shapes(x, "a=d 2; a=b 2; a=c 2;");
        x.weigh(0, 99);
        twin(x, 2, 0, 2);
    }

    private static void twinBounds() {
        MendedLetters none = new MendedLetters();
        Check.missing(none, "twin(0, 0)", () -> none.twin(0, 0));
        MendedLetters x = Check.with("a; b;", "a=b 1;", "");
        Check.elements(x, "twin(v, 0)", v -> x.twin(v, 0), 0, 1);
        Check.arguments(x, "twin(0, v)", v -> x.twin(0, v), 0, 1);
        Check.arguments(x, "twin(1, v)", v -> x.twin(1, v), 0, 1);
    }

    /** "pairs of unlike WORDS (the first, the second)": each way counts. */
    private static void pairs() {
        MendedLetters x = Check.with("a; b; c;", "a=b 1; b=a 1; b=c 1;", "");
        Check.is("twins(0)", x.twins(0), 0);
        Check.is("twins(1)", x.twins(1), 3);
        x.forget();
        Check.is("twins of none", x.twins(999), 0);
        Check.lexicon(x, "a;");
        Check.is("twins of one", x.twins(999), 0);
    }

    /** "apart() of so much at most (0 to 999)". */
    private static void soMuchAtMost() {
        MendedLetters x = Check.with("aaaaaaaaaaac; bbbbbbbbbbbd;", "a=b 90; c=d 9;", "");
        Check.is("apart", x.apart(0, 1), 999);
        Check.is("twins(998)", x.twins(998), 0);
        Check.is("twins(999)", x.twins(999), 1);
        Check.shapes(x, "a=b 90; c=d 10;");
        Check.is("apart", x.apart(0, 1), 1000);
        Check.is("twins(999)", x.twins(999), 0);
        Check.shapes(x, "a=b 1; c=d 1;");
        Check.is("twins(11)", x.twins(11), 0);
        Check.is("twins(12)", x.twins(12), 1);
        Check.is("twins(13)", x.twins(13), 1);
    }

    private static void twinsBounds() {
        MendedLetters none = new MendedLetters();
        Check.arguments(none, "twins(v)", v -> none.twins(v), 0, 999);
        MendedLetters x = Check.with("a; b;", "a=b 1;", "");
        Check.arguments(x, "twins(v)", v -> x.twins(v), 0, 999);
        Check.is("no other refusals", x.status(0), 0);
    }

    private static void sixtyWords() {
        MendedLetters x = new MendedLetters();
        StringBuilder text = new StringBuilder();
        for (int i = 0; i < 60; i++) {
            for (int bit = 32; bit > 0; bit /= 2) {
                text.append((i & bit) == 0 ? 'a' : 'b');
            }
            text.append(';');
            if (i % 30 == 29) {
                Check.lexicon(x, text.toString());
                text.setLength(0);
            }
        }
        Check.is("WORDS", x.told(0), 60);
        Check.shapes(x, "a=b 1; b=a 1;");
        // as far as the signs that differ
        int near = 0;
        for (int word = 0; word < 60; word++) {
            for (int other = 0; other < 60; other++) {
                int far = Integer.bitCount(word ^ other);
                Check.is("apart(" + word + ", " + other + ")", x.apart(word, other), far);
                near += word != other && far <= 2 ? 1 : 0;
            }
        }
        Check.is("twins(2)", x.twins(2), near);
        Check.is("twins(6)", x.twins(6), 60 * 59);
        Check.is("twin of the first", x.twin(0, 0), 1);
        Check.is("twin of the last", x.twin(59, 0), 27);
    }
}
