/** The boundary cases of a READING, its TOKENS and CELLS, EDGES and REST (promises 5, 19 to 21). */
public final class ReadingBoundsTest {
    private static final int NONE = MendedLetters.NONE;

    public static void main(String[] args) {
        fortyTokens();
        twentyFourCells();
        threeOthers();
        costsOfOthers();
        between();
        breaks();
        lines();
        lineOfAToken();
        inPlaceOfThat();
        tokenBounds();
        nearNext();
        readAsAWord();
        outsidePrice();
        edges();
        edgesOfShapes();
        mostEdges();
        cellBounds();
        restBounds();
        Check.end("ReadingBoundsTest");
    }

    /** "TOKENS (40 at most)", "a 41st token .. at its first byte". */
    private static void fortyTokens() {
        MendedLetters x = new MendedLetters();
        for (String gap : new String[] {" ", "\n", "  ", " \n"}) {
            String one = "a" + gap;
            int bytes = one.length() * 40;
            Check.fine(x, "reading", one.repeat(39), 39);
            Check.fine(x, "reading", one.repeat(40), 40);
            Check.fine(x, "reading", one.repeat(39) + "a", 40);
            Check.fine(x, "reading", gap + one.repeat(40) + gap, 40);
            Check.fault(x, "reading", one.repeat(41), 3, bytes);
            Check.fault(x, "reading", one.repeat(40) + "\n\n?", 3, bytes + 2);
            Check.fault(x, "reading", one.repeat(40) + "-", 3, bytes);
            Check.fault(x, "reading", one.repeat(40) + "a[", 3, bytes);
            Check.fault(x, "reading", one.repeat(40) + "]", 1, bytes);
            Check.fault(x, "reading", one.repeat(40) + "A", 1, bytes);
            Check.is("they stay", x.told(3), 40);
        }
        Check.elements(x, "token(v, 0)", v -> x.token(v, 0), 0, 39);
        // a BREAK is none between TOKENS
        Check.fine(x, "reading", "a ".repeat(39) + "a-\nb-\nc", 40);
    }

    /** "1 to 24 CELLS each", "a 25th cell of a token .. at its first byte". */
    private static void twentyFourCells() {
        for (String cell : new String[] {"a", "?", "-", "a[b1 c2 d3]"}) {
            MendedLetters x = new MendedLetters();
            int bytes = 24 * cell.length();
            Check.fine(x, "reading", cell, 1);
            Check.is("one CELL", x.token(0, 0), 1);
            Check.fine(x, "reading", cell.repeat(23), 1);
            Check.is("CELLS", x.token(0, 0), 23);
            Check.fine(x, "reading", cell.repeat(24), 1);
            Check.is("CELLS", x.token(0, 0), 24);
            Check.fine(x, "reading", cell.repeat(24) + " " + cell.repeat(10), 2);
            Check.is("CELLS of the next", x.token(1, 0), 10);
            Check.fault(x, "reading", cell.repeat(25), 3, bytes);
            Check.fault(x, "reading", cell.repeat(24) + "a[b0]", 3, bytes);
            Check.fault(x, "reading", cell.repeat(24) + "?", 3, bytes);
            Check.fault(x, "reading", cell.repeat(24) + "-", 3, bytes);
            Check.fault(x, "reading", cell.repeat(24) + "-\nb", 3, bytes);
            Check.fault(x, "reading", cell.repeat(24) + "]", 1, bytes);
            Check.fault(x, "reading", cell.repeat(24) + "1", 1, bytes);
            Check.fault(x, "reading", "q " + cell.repeat(25), 3, bytes + 2);
        }
        MendedLetters x = new MendedLetters();
        // a BREAK is one CELL of two bytes
        Check.fine(x, "reading", "-\na".repeat(12), 1);
        Check.is("CELLS", x.token(0, 0), 24);
        Check.is("BREAKS", x.token(0, 2), 12);
        Check.fault(x, "reading", "-\na".repeat(12) + "-\na", 3, 36);
        Check.fault(x, "reading", "a".repeat(23) + "-\na", 3, 25);
        Check.fine(x, "reading", "a".repeat(22) + "-\na", 1);
        // its 24th is "-", and what follows begins no TOKEN that goes on
        Check.fine(x, "reading", "a".repeat(23) + "-\n-", 2);
        Check.fine(x, "reading", "a".repeat(23) + "-\n", 1);
    }

    /** "up to 3 other letters", "a fourth other letter of a cell: at its first byte". */
    private static void threeOthers() {
        MendedLetters x = new MendedLetters();
        String[] some = {"a[]", "a[b1]", "a[b1 c2]", "a[b1 c2 d3]"};
        for (int count = 0; count < 4; count++) {
            Check.fine(x, "reading", some[count], 1);
            Check.is("others", x.cell(0, 0, 1), count);
            Check.is("the least cost of these", x.cell(0, 0, 2), count == 0 ? NONE : 1);
            Check.is("EDGES", x.token(0, 3), 1 + count);
        }
        Check.fault(x, "reading", "a[b1 c2 d3 e4]", 3, 11);
        Check.fault(x, "reading", "a[b1 c2 d3   e4]", 3, 13);
        Check.fault(x, "reading", "a[b1 c2 d3 e0]", 3, 11);
        Check.fault(x, "reading", "a[b1 c2 d3 e", 3, 11);
        Check.fault(x, "reading", "a[b1 c2 d3 ]", 1, 11);
        Check.fault(x, "reading", "a[b1 c2 d3 ", 1, 11);
        Check.fault(x, "reading", "a[b1 c2 d3e4]", 1, 10);
        Check.fault(x, "reading", "xya[b1 c2 d3 e4]", 3, 13);
        // the next CELL has three of its own
        Check.fine(x, "reading", "a[b1 c2 d3]e[f4 g5 h6]", 1);
        Check.is("others of the next", x.cell(0, 1, 1), 3);
        Check.is("their least", x.cell(0, 1, 2), 4);
        Check.fine(x, "reading", "a[a1 a1 a1]", 1);
        Check.is("others that are alike", x.cell(0, 0, 1), 3);
        // of the last CELL of all that a TAPE can hold ahead of it
        Check.fine(x, "reading", ("q".repeat(24) + " ").repeat(15) + "q".repeat(14) + "a[b7 c6 d5]", 16);
        Check.is("others of the last CELL", x.cell(15, 14, 1), 3);
        Check.is("their least cost", x.cell(15, 14, 2), 5);
        Check.is("EDGES of the last TOKEN", x.token(15, 3), 14 + 4);
        Check.is("others of the first CELL", x.cell(0, 0, 1), 0);
    }

    /** "at a cost of 1 to 99; one or more blanks between these, if there are more". */
    private static void costsOfOthers() {
        MendedLetters x = new MendedLetters();
        int[] fine = {1, 2, 98, 99};
        for (int cost : fine) {
            Check.fine(x, "reading", "a[b" + cost + "]", 1);
            Check.is("cost", x.cell(0, 0, 2), cost);
            Check.fine(x, "reading", "a[b99 c" + cost + " d99]", 1);
            Check.is("the least cost", x.cell(0, 0, 2), cost);
            Check.fine(x, "reading", "a[b99 c99   d00" + cost + "]", 1);
            Check.is("the least cost", x.cell(0, 0, 2), cost);
        }
        for (int cost : new int[] {0, 100, 101, 1000}) {
            Check.fault(x, "reading", "a[b" + cost + "]", 2, 3);
            Check.fault(x, "reading", "a[b1 c" + cost + "]", 2, 6);
            Check.fault(x, "reading", "a[b1 c1 d" + cost + "]", 2, 9);
            Check.fault(x, "reading", "a[b1 c1 d" + cost, 2, 9);
        }
        Check.fault(x, "reading", "a[b]", 1, 3);
        Check.fault(x, "reading", "a[b-1]", 1, 3);
        Check.fault(x, "reading", "a[b 1]", 1, 3);
        Check.fault(x, "reading", "a[ b1]", 1, 2);
        Check.fault(x, "reading", "a[ ]", 1, 2);
        Check.fault(x, "reading", "a[b1 ]", 1, 5);
        Check.fault(x, "reading", "a[b1\nc1]", 1, 4);
        Check.fault(x, "reading", "a[b1,c1]", 1, 4);
        Check.fault(x, "reading", "a [b1]", 1, 2);
        Check.fault(x, "reading", "a\n[b1]", 1, 2);
        Check.fault(x, "reading", "?[b1]", 1, 1);
        Check.fault(x, "reading", "-[b1]", 1, 1);
        Check.fault(x, "reading", "a-[b1]", 1, 2);
        Check.fault(x, "reading", "a-\n[b1]", 1, 3);
        Check.fault(x, "reading", "a[b1][c1]", 1, 5);
        Check.fault(x, "reading", "a[][b1]", 1, 3);
        Check.fault(x, "reading", "a[?1]", 1, 2);
        Check.fault(x, "reading", "a[-1]", 1, 2);
        Check.fault(x, "reading", "a[B1]", 1, 2);
    }

    /** "one or more blanks or NEWLINES (10) between (such may stand at its beginning, at its end)". */
    private static void between() {
        MendedLetters x = new MendedLetters();
        for (String gap : new String[] {" ", "\n", "  ", "\n\n", " \n", "\n ", " \n \n "}) {
            Check.fine(x, "reading", gap, 0);
            Check.fine(x, "reading", "a" + gap + "b", 2);
            Check.fine(x, "reading", gap + "a" + gap + "b" + gap, 2);
        }
        Check.fine(x, "reading", "ab", 1);
        for (char other : new char[] {0, 9, 11, 12, 13, 31, 33, 160}) {
            Check.fault(x, "reading", "a" + other + "b", 1, 1);
            Check.fault(x, "reading", other + "a", 1, 0);
            Check.fault(x, "reading", "a " + other, 1, 2);
        }
    }

    /** ""-" and a NEWLINE right behind it, and a letter or "?" right behind that: a BREAK (one CELL ..)". */
    private static void breaks() {
        broken("a-\nb", 1, 1, "a\nb");
        broken("a-\n?", 1, 1, "a\n?");
        broken("a-\nb[c1]", 1, 1, "a\nb");
        broken("-\na", 1, 1, "\na");
        broken("?-\na", 1, 1, "?\na");
        broken("a[b1]-\nc", 1, 1, "a\nc");
        broken("a--\nb", 1, 1, "a-\nb");
        broken("a-\nb-\nc", 1, 2, "a\nb\nc");
        broken("a-\n-", 2, 0, "a-");
        broken("a-\n-b", 2, 0, "a-");
        broken("a-\n-\nb", 2, 0, "a-");
        broken("a-\n b", 2, 0, "a-");
        broken("a-\n\nb", 2, 0, "a-");
        broken("a- \nb", 2, 0, "a-");
        broken("a-\n", 1, 0, "a-");
        broken("a-", 1, 0, "a-");
        broken("a-b", 1, 0, "a-b");
        broken("-\n", 1, 0, "-");
        broken("-\n\n", 1, 0, "-");
        broken("a\nb", 2, 0, "a");
        MendedLetters x = new MendedLetters();
        Check.fault(x, "reading", "a-\nB", 1, 3);
        Check.fault(x, "reading", "a-\n1", 1, 3);
        // the second TOKEN begins with the BREAK: "-", then "-" and what is right behind it
        Check.reading(x, "a-\n-\nb");
        Check.is("BREAKS of the second", x.token(1, 2), 1);
        Check.is("CELLS of the second", x.token(1, 0), 2);
        // the letter behind the text's end is none of it
        Check.feed(x, "a-\nb");
        Check.is("reading(3)", x.reading(3), 1);
        Check.is("BREAKS", x.token(0, 2), 0);
        Check.is("its CELL", x.cell(0, 1, 0), '-');
    }

    private static void broken(String text, int tokens, int breaks, String cells) {
        MendedLetters x = new MendedLetters();
        Check.fine(x, "reading", text, tokens);
        Check.is("BREAKS of" + Check.shown(text), x.token(0, 2), breaks);
        StringBuilder got = new StringBuilder();
        for (int cell = 0; cell < x.token(0, 0); cell++) {
            got.append((char) x.cell(0, cell, 0));
        }
        Check.is("CELLS of" + Check.shown(text), got.toString(), cells);
    }

    /** "LINES are counted by NEWLINES"; "4 LINES of the READING (0 without one)". */
    private static void lines() {
        MendedLetters x = new MendedLetters();
        Check.is("LINES without a READING", x.told(4), 0);
        Check.reading(x, "a]");
        Check.is("LINES behind a FAULT, still without one", x.told(4), 0);
        x.feed(0x20202020, 0, 0, 0, 0);
        Check.illegal(x, "reading(21)", () -> x.reading(21));
        Check.is("LINES behind a refusal, still without one", x.told(4), 0);
        x.reading(0);
        Check.is("LINES of an empty READING", x.told(4), 1);
        String[] texts = {"a", "a\n", "\na", "a\nb", "a-\nb", "a-\n-b", "\n\n\n", "\n", " ", "a \n\n b"};
        int[] due = {1, 2, 2, 2, 2, 2, 4, 2, 1, 3};
        for (int i = 0; i < texts.length; i++) {
            Check.reading(x, texts[i]);
            Check.is("LINES of" + Check.shown(texts[i]), x.told(4), due[i]);
        }
        Check.reading(x, "\n".repeat(400));
        Check.is("LINES of 400 NEWLINES", x.told(4), 401);
        Check.fault(x, "reading", "\n]", 1, 1);
        Check.is("LINES behind a FAULT", x.told(4), 401);
        x.forget();
        Check.is("LINES behind forget", x.told(4), 401);
    }

    /** "1 its LINE (from 0 on)". */
    private static void lineOfAToken() {
        MendedLetters x = new MendedLetters();
        Check.reading(x, "a b\nc-\nd e\n\nf");
        int[] due = {0, 0, 1, 2, 4};
        for (int token = 0; token < due.length; token++) {
            Check.is("LINE of " + token, x.token(token, 1), due[token]);
        }
        Check.reading(x, "\n".repeat(399) + "a");
        Check.is("the farthest LINE", x.token(0, 1), 399);
        Check.is("LINES", x.told(4), 400);
    }

    /** "in place of that there is". */
    private static void inPlaceOfThat() {
        MendedLetters x = new MendedLetters();
        Check.fine(x, "reading", "a[b1 c2 d3]-\nb c\nd", 3);
        Check.fine(x, "reading", "e f", 2);
        Check.is("others", x.cell(0, 0, 1), 0);
        Check.is("BREAKS", x.token(0, 2), 0);
        Check.is("near", x.token(0, 5), 0);
        Check.is("near", x.token(1, 5), 0);
        Check.missing(x, "token(2, 0)", () -> x.token(2, 0));
        Check.fault(x, "reading", "x\ny\nz\n]", 1, 6);
        Check.is("its byte", x.cell(1, 0, 0), 'f');
        Check.is("near", x.token(0, 5), 0);
        Check.fine(x, "reading", " ", 0);
        Check.missing(x, "token(0, 0)", () -> x.token(0, 0));
    }

    private static void tokenBounds() {
        MendedLetters none = new MendedLetters();
        for (int what : new int[] {0, 6, 7, -1}) {
            Check.missing(none, "token(0, " + what + ")", () -> none.token(0, what));
        }
        MendedLetters x = Check.with("", "", "a b c");
        Check.elements(x, "token(v, 3)", v -> x.token(v, 3), 0, 2);
        Check.arguments(x, "token(2, v)", v -> x.token(2, v), 0, 6);
        for (int what : new int[] {-1, 7, Integer.MIN_VALUE, Integer.MAX_VALUE}) {
            Check.missing(x, "token(3, " + what + ")", () -> x.token(3, what));
            Check.missing(x, "token(-1, " + what + ")", () -> x.token(-1, what));
        }
    }

    /** "5 1 one NEWLINE and no blank is behind it, and a TOKEN, 0 not". */
    private static void nearNext() {
        String[] gaps = {"\n", " ", "\n\n", " \n", "\n ", "\n\n\n", "  ", " \n "};
        MendedLetters x = new MendedLetters();
        for (int i = 0; i < gaps.length; i++) {
            Check.reading(x, "a" + gaps[i] + "b" + gaps[i]);
            Check.is("near behind" + Check.shown(gaps[i]), x.token(0, 5), i == 0 ? 1 : 0);
            Check.is("near, but no TOKEN behind" + Check.shown(gaps[i]), x.token(1, 5), 0);
        }
        Check.reading(x, "a");
        Check.is("near at the end", x.token(0, 5), 0);
        Check.reading(x, "a-\nb\nc");
        Check.is("near behind a BREAK's TOKEN", x.token(0, 5), 1);
        Check.reading(x, "a-\n-b");
        Check.is("near behind a HYPHEN", x.token(0, 5), 1);
    }

    /** "6 1 it is read as a WORD, 0 not". */
    private static void readAsAWord() {
        MendedLetters x = Check.with("", "", "a");
        Check.is("without WORDS", x.token(0, 6), 0);
        Check.lexicon(x, "ab; abcdefghijkl; a-b;");
        String[] texts = {"a", "ab", "abc", "a-b", "a-\nb", "abcdefghijkl", "abcdefghijk", "abcdefghijklm", "a?", "a[b1]b",
            "x[a1]b", "ab-", "-ab", "-\nab", "abcdef-\nghijkl", "ab-\n", "a".repeat(24), "a-\nb-\nc"};
        int[] due = {0, 1, 0, 1, 1, 1, 0, 0, 0, 1, 0, 0, 0, 1, 1, 0, 0, 0};
        for (int i = 0; i < texts.length; i++) {
            Check.reading(x, texts[i]);
            Check.is("read as a WORD" + Check.shown(texts[i]), x.token(0, 6), due[i]);
        }
    }

    /** "PRICE: OUT (20 at first) and EACH (2) for each CELL". */
    private static void outsidePrice() {
        MendedLetters x = Check.with("", "", "a " + "?".repeat(24) + " -\na");
        int[][] due = {{20, 2, 22, 68, 24}, {0, 0, 0, 0, 0}, {999, 99, 1098, 3375, 1197}, {0, 99, 99, 2376, 198},
            {999, 0, 999, 999, 999}, {1, 1, 2, 25, 3}};
        for (int[] one : due) {
            x.set(0, one[0]);
            x.set(1, one[1]);
            for (int token = 0; token < 3; token++) {
                Check.is("token(" + token + ", 4)", x.token(token, 4), one[2 + token]);
                Check.is("mended(" + token + ", 1)", x.mended(token, 1), one[2 + token]);
            }
        }
    }

    /** EDGES of a letter, of others told, of a BLOT, of "-", of a BREAK. */
    private static void edges() {
        MendedLetters x = Check.with("", "", "a a[b1 c2 d3] ? - -\na a[] a[a1]");
        int[] due = {1, 4, 26, 2, 3, 1, 2};
        for (int token = 0; token < due.length; token++) {
            Check.is("EDGES of " + token, x.token(token, 3), due[token]);
        }
        // they are there at a cost of nothing, too
        for (int what = 2; what <= 4; what++) {
            x.set(what, 0);
        }
        for (int token = 0; token < due.length; token++) {
            Check.is("EDGES of " + token, x.token(token, 3), due[token]);
        }
    }

    /** "of each SHAPE whose first PART is what CELLS from there on were read as (letters themselves, no blots)". */
    private static void edgesOfShapes() {
        String[] texts = {"abc", "ab", "bc", "ab-c", "a-\nbc", "ab?", "?bc", "abx[c1]", "abc[x1]", "abcabc", "ab c", "ab\nc",
            "aabc", "abcc", "a[x1]b[x1]c[x1]", "bca"};
        int[] due = {1, 0, 0, 0, 0, 0, 0, 0, 1, 2, 0, 0, 1, 1, 1, 0};
        MendedLetters x = new MendedLetters();
        Check.shapes(x, "q=r;");
        for (int i = 0; i < texts.length; i++) {
            Check.reading(x, texts[i]);
            int without = x.token(0, 3);
            Check.shapes(x, "abc=x;");
            Check.is("EDGES of a SHAPE of three in" + Check.shown(texts[i]), x.token(0, 3) - without, due[i]);
            Check.shapes(x, "q=r;");
        }
        Check.reading(x, "a".repeat(24));
        for (int letters = 1; letters <= 3; letters++) {
            Check.shapes(x, "a".repeat(letters) + "=b;");
            Check.is("EDGES of " + letters, x.token(0, 3), 24 + 24 - letters + 1);
        }
    }

    /** As many EDGES as a NET can have: letters with three others and twenty SHAPES, or BLOTS. */
    private static void mostEdges() {
        MendedLetters x = new MendedLetters();
        Check.fine(x, "shapes", "a=b;".repeat(20), 20);
        Check.fine(x, "reading", "a[b1 c1 d1]".repeat(24), 1);
        Check.is("EDGES", x.token(0, 3), 24 * 24);
        Check.is("REST", x.rest(0, 0), 0);
        Check.fine(x, "reading", "?".repeat(24), 1);
        Check.is("EDGES", x.token(0, 3), 24 * 26);
        Check.is("REST", x.rest(0, 0), 96);
        Check.fine(x, "lexicon", "bbbbbbbbbbbb;", 1);
        Check.is("none of 24 CELLS", x.best(0, 0, 0), NONE);
        Check.fine(x, "shapes", "aa=b;".repeat(20), 20);
        Check.fine(x, "reading", "a[b1 c1 d1]".repeat(24), 1);
        Check.is("EDGES", x.token(0, 3), 24 * 4 + 23 * 20);
        Check.is("twelve SHAPES", x.price(0, 0), 60);
    }

    /** "0 its byte ("?", "-" as such; a BREAK: 10), 1 how many other letters, 2 the least cost of these (NONE)". */
    private static void cellBounds() {
        MendedLetters none = new MendedLetters();
        Check.missing(none, "cell(0, 0, 0)", () -> none.cell(0, 0, 0));
        Check.missing(none, "cell(0, 0, 3)", () -> none.cell(0, 0, 3));
        MendedLetters x = Check.with("", "", "a[b9 c7 d8]?--\nz " + "a".repeat(24));
        int[][] due = {{'a', 3, 7}, {'?', 0, NONE}, {'-', 0, NONE}, {10, 0, NONE}, {'z', 0, NONE}};
        for (int cell = 0; cell < due.length; cell++) {
            for (int what = 0; what < 3; what++) {
                Check.is("cell(0, " + cell + ", " + what + ")", x.cell(0, cell, what), due[cell][what]);
            }
        }
        Check.elements(x, "cell(0, v, 0)", v -> x.cell(0, v, 0), 0, 4);
        Check.elements(x, "cell(1, v, 2)", v -> x.cell(1, v, 2), 0, 23);
        Check.elements(x, "cell(v, 0, 1)", v -> x.cell(v, 0, 1), 0, 1);
        Check.arguments(x, "cell(0, 0, v)", v -> x.cell(0, 0, v), 0, 2);
        for (int what : new int[] {-1, 3, Integer.MIN_VALUE, Integer.MAX_VALUE}) {
            Check.missing(x, "cell(0, 5, " + what + ")", () -> x.cell(0, 5, what));
            Check.missing(x, "cell(0, -1, " + what + ")", () -> x.cell(0, -1, what));
            Check.missing(x, "cell(2, 0, " + what + ")", () -> x.cell(2, 0, what));
        }
        Check.missing(x, "the CELLS of the first are no more than its own", () -> x.cell(0, 6, 0));
    }

    /** "REST of a place (0 to L)": the least COST of EDGES from there to L, whatever they spell. */
    private static void restBounds() {
        MendedLetters none = new MendedLetters();
        Check.missing(none, "rest(0, 0)", () -> none.rest(0, 0));
        MendedLetters x = Check.with("", "", "?a-\nb-? " + "?".repeat(24));
        // "-" as it is costs nothing, nor does a BREAK as nothing
        int[] due = {8, 4, 4, 4, 4, 4, 0};
        for (int place = 0; place < due.length; place++) {
            Check.is("rest(0, " + place + ")", x.rest(0, place), due[place]);
        }
        Check.elements(x, "rest(0, v)", v -> x.rest(0, v), 0, 6);
        Check.elements(x, "rest(1, v)", v -> x.rest(1, v), 0, 24);
        Check.elements(x, "rest(v, 0)", v -> x.rest(v, 0), 0, 1);
        x.set(2, 99);
        for (int place = 0; place <= 24; place++) {
            Check.is("rest(1, " + place + ")", x.rest(1, place), 99 * (24 - place));
        }
        x.set(2, 0);
        Check.is("rest(1, 0)", x.rest(1, 0), 0);
        Check.is("no other refusals", x.status(1), 0);
    }
}
