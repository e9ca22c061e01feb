/** The boundary cases of SHAPES (promises 4 and 18). */
public final class ShapesBoundsTest {
    private static final int NONE = MendedLetters.NONE;

    public static void main(String[] args) {
        oneToThreeLetters();
        theTwoUnlike();
        costs();
        blanks();
        twentyShapes();
        inPlaceOfThose();
        shapeBounds();
        Check.end("ShapesBoundsTest");
    }

    /** "PART: 1 to 3 letters", "a part's fourth: at it". */
    private static void oneToThreeLetters() {
        String first = "abcdefg";
        String second = "uvwxyz";
        for (int one = 1; one <= 5; one++) {
            for (int two = 1; two <= 5; two++) {
                MendedLetters x = new MendedLetters();
                String text = first.substring(0, one) + "=" + second.substring(0, two) + ";";
                if (one <= 3 && two <= 3) {
                    Check.fine(x, "shapes", text, 1);
                    Check.is("letters of the first PART", x.shape(0, 1), one);
                    Check.is("letters of the second PART", x.shape(0, 2), two);
                } else {
                    Check.fault(x, "shapes", text, 3, one > 3 ? 3 : one + 1 + 3);
                }
            }
        }
        MendedLetters x = new MendedLetters();
        Check.fault(x, "shapes", "=a;", 1, 0);
        Check.fault(x, "shapes", "a=;", 1, 2);
        Check.fault(x, "shapes", "a=1;", 1, 2);
        Check.fault(x, "shapes", "=;", 1, 0);
        Check.fault(x, "shapes", "a;", 1, 1);
        Check.fault(x, "shapes", "a=b=c;", 1, 3);
        Check.fault(x, "shapes", "a-b=c;", 1, 1);
        Check.fault(x, "shapes", "a=b-c;", 1, 3);
        Check.fault(x, "shapes", "a=?;", 1, 2);
        Check.fault(x, "shapes", "abc-=d;", 1, 3);
        Check.fault(x, "shapes", "abcd", 3, 3);
        Check.fault(x, "shapes", "a=bcde", 3, 5);
    }

    /** "the two unlike", "(A second PART that is the first one: 1, at its first byte.)". */
    private static void theTwoUnlike() {
        MendedLetters x = new MendedLetters();
        for (String part : new String[] {"a", "z", "aa", "ab", "abc", "zzz"}) {
            int place = part.length() + 1;
            Check.fault(x, "shapes", part + "=" + part + ";", 1, place);
            Check.fault(x, "shapes", part + "=  " + part + ";", 1, place + 2);
            Check.fault(x, "shapes", part + "=" + part + " 100;", 1, place);
            Check.fault(x, "shapes", part + "=" + part + "!", 1, place);
            Check.fault(x, "shapes", part + "=" + part, 1, place);
            Check.fault(x, "shapes", "q=r;" + part + "=" + part + ";", 1, place + 4);
        }
        Check.fault(x, "shapes", "abc=abcd;", 3, 7);
        Check.fine(x, "shapes", "a=aa;aa=a;ab=abc;abc=ab;ab=ba;abc=abd;abc=bbc;aa=aaa;", 8);
        // one told twice is fine: only its two PARTS must be unlike
        Check.fine(x, "shapes", "a=b;a=b;b=a;a=b 7;", 4);
        Check.is("its cost", x.shape(3, 0), 7);
    }

    /** "cost 1 to 99, 5 without". */
    private static void costs() {
        MendedLetters x = new MendedLetters();
        Check.fine(x, "shapes", "a=b;a=b 1;a=b 2;a=b 5;a=b 98;a=b99;a=b 001;", 7);
        int[] due = {5, 1, 2, 5, 98, 99, 1};
        for (int shape = 0; shape < due.length; shape++) {
            Check.is("cost of " + shape, x.shape(shape, 0), due[shape]);
        }
        Check.fault(x, "shapes", "a=b 0;", 2, 4);
        Check.fault(x, "shapes", "a=b0;", 2, 3);
        Check.fault(x, "shapes", "a=b 000;", 2, 4);
        Check.fault(x, "shapes", "a=b 100;", 2, 4);
        Check.fault(x, "shapes", "a=b 0", 2, 4);
        Check.fault(x, "shapes", "a=b -1;", 1, 4);
        Check.fault(x, "shapes", "a=b 1 1;", 1, 6);
    }

    /** "blanks likewise, but not ahead of "="". */
    private static void blanks() {
        MendedLetters x = new MendedLetters();
        Check.fine(x, "shapes", "   ab=   cd   7   ;   e=f   ;   ", 2);
        Check.fine(x, "shapes", "ab=cd7;e=f;", 2);
        Check.fault(x, "shapes", "ab =cd;", 1, 2);
        Check.fault(x, "shapes", "ab   =cd;", 1, 2);
        Check.fault(x, "shapes", "a b=cd;", 1, 1);
        Check.fault(x, "shapes", "ab=c d;", 1, 5);
        Check.fault(x, "shapes", "ab=\ncd;", 1, 3);
        Check.fault(x, "shapes", "\nab=cd;", 1, 0);
        Check.fault(x, "shapes", "ab=cd;\n", 1, 6);
    }

    /** "20 at most", "a 21st shape .. at its first byte". */
    private static void twentyShapes() {
        MendedLetters x = new MendedLetters();
        Check.fine(x, "shapes", "a=b;".repeat(19), 19);
        Check.fine(x, "shapes", "a=b;".repeat(20), 20);
        Check.fine(x, "shapes", "a=b;".repeat(20) + "  ", 20);
        Check.fault(x, "shapes", "a=b;".repeat(21), 3, 80);
        Check.fault(x, "shapes", "a=b;".repeat(20) + "   c=d;", 3, 83);
        Check.fault(x, "shapes", "a=b;".repeat(20) + "c", 3, 80);
        Check.fault(x, "shapes", "a=b;".repeat(20) + "abcd=e;", 3, 80);
        Check.fault(x, "shapes", "a=b;".repeat(20) + "a=a;", 3, 80);
        Check.fault(x, "shapes", "a=b;".repeat(20) + "=", 1, 80);
        Check.fault(x, "shapes", "a=b;".repeat(20) + ";", 1, 80);
        Check.is("they stay", x.told(2), 20);
        Check.fine(x, "shapes", "a=b;".repeat(20), 20);
        Check.reading(x, "a");
        Check.is("EDGES of all twenty and the letter", x.token(0, 3), 21);
    }

    /** "in place of those there are": not behind them, and none is left of them. */
    private static void inPlaceOfThose() {
        MendedLetters x = new MendedLetters();
        Check.fine(x, "shapes", "a=b 9;c=d 8;", 2);
        Check.fine(x, "shapes", "abc=de;", 1);
        Check.is("cost", x.shape(0, 0), 5);
        Check.is("letters", x.shape(0, 1), 3);
        Check.missing(x, "shape(1, 0)", () -> x.shape(1, 0));
        Check.fault(x, "shapes", "x=y 1;x=y 1;x", 1, 13);
        Check.is("letters behind a FAULT", x.shape(0, 1), 3);
        Check.is("cost behind a FAULT", x.shape(0, 0), 5);
        Check.reading(x, "abc x");
        Check.is("EDGES behind a FAULT", x.token(0, 3), 4);
        Check.is("EDGES behind a FAULT", x.token(1, 3), 1);
        Check.fine(x, "shapes", "  ", 0);
        Check.missing(x, "shape(0, 0)", () -> x.shape(0, 0));
        Check.is("EDGES without", x.token(0, 3), 3);
    }

    private static void shapeBounds() {
        MendedLetters none = new MendedLetters();
        Check.missing(none, "shape(0, 0)", () -> none.shape(0, 0));
        Check.missing(none, "shape(0, 3)", () -> none.shape(0, 3));
        Check.missing(none, "used(0)", () -> none.used(0));
        MendedLetters x = Check.with("", "a=b;".repeat(20), "");
        Check.elements(x, "shape(v, 0)", v -> x.shape(v, 0), 0, 19);
        Check.elements(x, "used(v)", v -> x.used(v), 0, 19);
        Check.arguments(x, "shape(19, v)", v -> x.shape(19, v), 0, 2);
        for (int what : new int[] {-1, 3, Integer.MIN_VALUE, Integer.MAX_VALUE}) {
            Check.missing(x, "shape(20, " + what + ")", () -> x.shape(20, what));
            Check.missing(x, "shape(-1, " + what + ")", () -> x.shape(-1, what));
        }
        Check.is("fault", x.fault(), NONE);
    }
}
