/** Promises 35 to 37: how far WORDS are from one another. */
public final class TwinTest {
    private static final int NONE = MendedLetters.NONE;

    public static void main(String[] args) {
        promise35();
        promise36();
        promise37();
        Check.end("TwinTest");
    }

    private static void promise35() {
        MendedLetters x = Check.with("bum 50; burn 9; bam; b-u-m; bu-m 3; cl; d;",
                "rn=m 2; u=a 4; urn=am 9; m=rn 7; c=d 1; l=d 1; cl=d 8;", "");
        Check.is("WEIGHTS do not count", x.apart(1, 0), 2);
        Check.is("to itself", x.apart(1, 1), 0);
        Check.is("by two SHAPES at less", x.apart(1, 2), 6);
        Check.is("the other way round", x.apart(0, 1), 7);
        Check.is("it can't be", x.apart(2, 0), NONE);
        Check.is("a SPECK", x.apart(3, 4), 3);
        Check.is("two SPECKS", x.apart(3, 0), 6);
        Check.is("SPECKS and a SHAPE", x.apart(3, 2), 10);
        Check.is("no SPECK comes about", x.apart(0, 3), NONE);
        Check.is("both letters are needed", x.apart(5, 6), 8);
        Check.is("it can't be", x.apart(6, 5), NONE);
        x.set(3, 0);
        Check.is("SPECKS for nothing", x.apart(3, 0), 0);
        Check.missing(x, "apart(7, 0)", () -> x.apart(7, 0));
        Check.missing(x, "apart(0, 7)", () -> x.apart(0, 7));
        Check.missing(x, "apart(-1, 0)", () -> x.apart(-1, 0));
        Check.missing(x, "apart(0, -1)", () -> x.apart(0, -1));
        Check.shapes(x, "");
        Check.is("without SHAPES", x.apart(1, 0), NONE);
        MendedLetters y = Check.with("aaaaaaaaaaaa; bbbbbbbbbbbb;", "a=b 99;", "");
        Check.is("twelve SHAPES", y.apart(0, 1), 1188);
    }

    private static void promise36() {
        MendedLetters x = Check.with("d; a; b; c; a-a;", "a=d 3; a=b 2; a=c 2; b=c 9;", "");
        twin(x, 1, 2, 2);
        twin(x, 2, 3, 9);
        twin(x, 0, NONE, NONE);
        twin(x, 3, NONE, NONE);
        x.weigh(2, 99);
        twin(x, 1, 2, 2);
        Check.lexicon(x, "aa; ba;");
        twin(x, 4, 5, 3);
        x.set(3, 0);
        twin(x, 4, 5, 0);
        Check.illegal(x, "twin(0, 2)", () -> x.twin(0, 2));
        Check.illegal(x, "twin(0, -1)", () -> x.twin(0, -1));
        Check.missing(x, "twin(7, 0)", () -> x.twin(7, 0));
        Check.missing(x, "twin(-1, 2)", () -> x.twin(-1, 2));
    }

    private static void twin(MendedLetters x, int word, int other, int cost) {
        Check.is("twin(" + word + ", 0)", x.twin(word, 0), other);
        Check.is("twin(" + word + ", 1)", x.twin(word, 1), cost);
    }

    private static void promise37() {
        MendedLetters x = Check.with("a 9; b; c; a-b; ab;", "a=b 2; b=a 4; b=c 7;", "");
        // a-b 2, a-c none, b-a 4, b-c 7, "a-b" to "ab" 3
        int[][] due = {{0, 0}, {1, 0}, {2, 1}, {3, 2}, {4, 3}, {6, 3}, {7, 4}, {999, 4}};
        for (int[] one : due) {
            Check.is("twins(" + one[0] + ")", x.twins(one[0]), one[1]);
        }
        x.set(3, 0);
        Check.is("twins(0) with SPECKS for nothing", x.twins(0), 1);
        MendedLetters y = Check.with("aaaaaaaaaaaa; bbbbbbbbbbbb;", "a=b 99;", "");
        Check.is("one above 999", y.twins(999), 0);
        Check.illegal(y, "twins(1000)", () -> y.twins(1000));
        Check.illegal(y, "twins(-1)", () -> y.twins(-1));
        y.forget();
        Check.is("twins of none", y.twins(999), 0);
    }
}
