/** Promises 19 to 21: TOKENS, CELLS, REST. */
public final class ReadingTest {
    private static final int NONE = MendedLetters.NONE;

    public static void main(String[] args) {
        promise19();
        promise19Edges();
        promise19ReadAsWord();
        promise20();
        promise21();
        Check.end("ReadingTest");
    }

    private static void promise19() {
        MendedLetters x = Check.with("ab; co;", "", "\nab c-\no-\n?d\ne\n\nf \ng\n h\ni-\n");
        // TOKENS: ab; c-o-?d (two BREAKS); e; f; g; h; i- (the text ends behind its NEWLINE)
        int[][] due = {
            {2, 1, 0, 2, 24, 0, 1}, {6, 1, 2, 33, 32, 1, 0}, {1, 4, 0, 1, 22, 0, 0},
            {1, 6, 0, 1, 22, 0, 0}, {1, 7, 0, 1, 22, 0, 0}, {1, 8, 0, 1, 22, 1, 0}, {2, 9, 0, 3, 24, 0, 0}};
        Check.is("TOKENS", x.told(3), due.length);
        Check.is("LINES", x.told(4), 11);
        for (int token = 0; token < due.length; token++) {
            for (int what = 0; what < 7; what++) {
                Check.is("token(" + token + ", " + what + ")", x.token(token, what), due[token][what]);
            }
        }
        x.set(0, 100);
        x.set(1, 10);
        Check.is("OUTSIDE", x.token(1, 4), 160);
        Check.illegal(x, "token(0, 7)", () -> x.token(0, 7));
        Check.illegal(x, "token(0, -1)", () -> x.token(0, -1));
        Check.missing(x, "token(7, 0)", () -> x.token(7, 0));
        Check.missing(x, "token(-1, 7)", () -> x.token(-1, 7));
    }

    private static void promise19Edges() {
        MendedLetters x = Check.with("", "rn=m;n=r;n=r;nr=ab;rnr=x;", "rnrn rn?r r-n r-\nn rn[x1 y2 z3] n[a1 a1]");
        // rnrn: 4 letters, rn twice, n=r twice for each of two n, nr once, rnr once
        Check.is("EDGES of rnrn", x.token(0, 3), 4 + 2 + 4 + 1 + 1);
        Check.is("EDGES of rn?r", x.token(1, 3), 3 + 26 + 1 + 2);
        Check.is("EDGES of r-n", x.token(2, 3), 2 + 2 + 2);
        Check.is("EDGES of r, a BREAK, n", x.token(3, 3), 2 + 2 + 2);
        Check.is("EDGES of rn or others", x.token(4, 3), 2 + 3 + 1 + 2);
        Check.is("EDGES of n or a or a", x.token(5, 3), 3 + 2);
    }

    private static void promise19ReadAsWord() {
        MendedLetters x = Check.with("wellknown; a-b; cd;", "", "wel-\nlknown a-b a-\nb c[x1]d c? x[c1]d cde c -a-b");
        int[] due = {1, 1, 0, 1, 0, 0, 0, 0, 0};
        for (int token = 0; token < due.length; token++) {
            Check.is("token(" + token + ", 6)", x.token(token, 6), due[token]);
        }
        x.set(2, 0);
        x.set(4, 0);
        Check.is("a BLOT is no letter", x.token(4, 6), 0);
        Check.is("a BREAK is nothing", x.token(2, 6), 0);
    }

    private static void promise20() {
        MendedLetters x = Check.with("", "", "a[b7 c3 d9]?-\nb- c[a99]");
        int[][] due = {{'a', 3, 3}, {'?', 0, NONE}, {10, 0, NONE}, {'b', 0, NONE}, {'-', 0, NONE}};
        Check.is("CELLS", x.token(0, 0), due.length);
        for (int cell = 0; cell < due.length; cell++) {
            for (int what = 0; what < 3; what++) {
                Check.is("cell(0, " + cell + ", " + what + ")", x.cell(0, cell, what), due[cell][what]);
            }
        }
        Check.is("cell(1, 0, 0)", x.cell(1, 0, 0), 'c');
        Check.is("cell(1, 0, 1)", x.cell(1, 0, 1), 1);
        Check.is("cell(1, 0, 2)", x.cell(1, 0, 2), 99);
        Check.illegal(x, "cell(0, 0, 3)", () -> x.cell(0, 0, 3));
        Check.illegal(x, "cell(0, 0, -1)", () -> x.cell(0, 0, -1));
        Check.missing(x, "cell(0, 5, 0)", () -> x.cell(0, 5, 0));
        Check.missing(x, "cell(0, -1, 3)", () -> x.cell(0, -1, 3));
        Check.missing(x, "cell(1, 1, 0)", () -> x.cell(1, 1, 0));
        Check.missing(x, "cell(2, 0, 0)", () -> x.cell(2, 0, 0));
        Check.missing(x, "cell(-1, 0, 0)", () -> x.cell(-1, 0, 0));
        Check.reading(x, "c");
        Check.is("others of an earlier READING are gone", x.cell(0, 0, 1), 0);
    }

    private static void promise21() {
        MendedLetters x = Check.with("", "ab=c 1;", "?a?-b-\n? abc");
        int[] due = {12, 8, 8, 4, 4, 4, 4, 0};
        for (int place = 0; place < due.length; place++) {
            Check.is("rest(0, " + place + ")", x.rest(0, place), due[place]);
        }
        Check.is("rest(1, 0)", x.rest(1, 0), 0);
        Check.is("rest(1, 3)", x.rest(1, 3), 0);
        x.set(2, 99);
        Check.is("rest by another BLOT", x.rest(0, 0), 297);
        x.set(2, 0);
        Check.is("rest by no BLOT", x.rest(0, 0), 0);
        Check.missing(x, "rest(0, 8)", () -> x.rest(0, 8));
        Check.missing(x, "rest(0, -1)", () -> x.rest(0, -1));
        Check.missing(x, "rest(1, 4)", () -> x.rest(1, 4));
        Check.missing(x, "rest(2, 0)", () -> x.rest(2, 0));
        Check.missing(x, "rest(-1, 0)", () -> x.rest(-1, 0));
    }
}
