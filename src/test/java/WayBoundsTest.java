/** The boundary cases of the EDGES by which a TOKEN is MENDED (promises 29 to 31). */
public final class WayBoundsTest {
    private static final int NONE = MendedLetters.NONE;

    public static void main(String[] args) {
        ofOutside();
        oneToTwentyFour();
        edgesInOrder();
        signsOfAnEdge();
        wayBounds();
        edgeBounds();
        usedOften();
        Check.end("WayBoundsTest");
    }

    private static void way(MendedLetters x, int token, int edges, int cost) {
        Check.is("way(" + token + ", 0)", x.way(token, 0), edges);
        Check.is("way(" + token + ", 1)", x.way(token, 1), cost);
    }

    /** "NONE each: it is OUTSIDE." */
    private static void ofOutside() {
        MendedLetters x = Check.with("", "", "a");
        way(x, 0, NONE, NONE);
        Check.lexicon(x, "a 22;");
        way(x, 0, 1, 0);
        x.weigh(0, 23);
        way(x, 0, NONE, NONE);
        for (int what = 0; what < 5; what++) {
            int one = what;
            Check.missing(x, "edge(0, 0, " + what + ") of OUTSIDE", () -> x.edge(0, 0, one));
        }
        x.weigh(0, 0);
        way(x, 0, 1, 0);
        Check.is("its place", x.edge(0, 0, 0), 0);
        // WEIGHT is none of the COST
        x.weigh(0, 9);
        way(x, 0, 1, 0);
    }

    private static void oneToTwentyFour() {
        MendedLetters x = Check.with("abcdefghijkl; a;", "abc=a 99;", "a-b-c-d-e-f-g-h-i-j-k-l-");
        x.set(3, 2);
        way(x, 0, 24, 24);
        Check.is("the first one's place", x.edge(0, 0, 0), 0);
        Check.is("the last one's place", x.edge(0, 23, 0), 23);
        Check.is("the place behind the last one", x.edge(0, 23, 1), 24);
        Check.missing(x, "edge(0, 24, 0)", () -> x.edge(0, 24, 0));
        x.set(0, 999);
        Check.reading(x, "abc");
        way(x, 0, 1, 99);
        Check.is("one EDGE", Check.edgesOf(x, 0), "0-3/99/1/0");
        Check.missing(x, "edge(0, 1, 0)", () -> x.edge(0, 1, 0));
    }

    /** "the ones of which the first that differs stands first at its place": each kind ahead of the next. */
    private static void edgesInOrder() {
        // a letter itself, others as told, SHAPES by number
        first("a[a1]", "a;", "", "0-1/0/1/-1");
        first("a[b3 b3]", "b;", "a=b 3;", "0-1/3/1/-1");
        first("a[c1 b3]", "b;", "a=b 3;", "0-1/3/1/-1");
        first("a[b4]", "b;", "a=b 3;", "0-1/3/1/0");
        first("a", "b;", "a=b 3; a=b 3;", "0-1/3/1/0");
        first("a", "b;", "a=b 4; a=b 3; a=b 3;", "0-1/3/1/1");
        // of one COST: the letter and then a SHAPE of two, ahead of the SHAPE of three
        first("abc", "axy;", "abc=axy 3; bc=xy 3;", "0-1/0/1/-1 1-3/3/2/1");
        first("abc", "axy;", "abc=axy 2; bc=xy 3;", "0-3/2/3/0");
        // "-" ahead of nothing; of a BREAK nothing ahead of "-"
        MendedLetters x = Check.with("a-b;", "", "a--b");
        x.set(3, 0);
        Check.is("EDGES of a--b", Check.edgesOf(x, 0), "0-1/0/1/-1 1-2/0/1/-1 2-3/0/0/-1 3-4/0/1/-1");
        x.set(4, 0);
        Check.reading(x, "a-\nb");
        Check.is("EDGES of a BREAK", Check.edgesOf(x, 0), "0-1/0/1/-1 1-2/0/1/-1 2-3/0/1/-1");
        Check.reading(x, "a--\nb");
        // "-" and nothing, or nothing and "-"
        Check.is("EDGES of - and a BREAK", Check.edgesOf(x, 0), "0-1/0/1/-1 1-2/0/1/-1 2-3/0/0/-1 3-4/0/1/-1");
    }

    private static void first(String reading, String lexicon, String shapes, String due) {
        Check.is("EDGES of " + reading, Check.edgesOf(Check.with(lexicon, shapes, reading), 0), due);
    }

    /** "3 how many SIGNS, 4 its SHAPE (NONE: it is of none)": none, one, three; the first SHAPE and the twentieth. */
    private static void signsOfAnEdge() {
        first("-a", "a;", "", "0-1/3/0/-1 1-2/0/1/-1");
        first("-\na", "a;", "", "0-1/0/0/-1 1-2/0/1/-1");
        first("?", "z;", "", "0-1/4/1/-1");
        first("a", "bcd;", "a=bcd 1;", "0-1/1/3/0");
        first("bcd", "a;", "a=bcd 1; bcd=a 1;", "0-3/1/1/1");
        first("y", "z;", "a=b;".repeat(19) + "y=z 1;", "0-1/1/1/19");
        first("bcd", "efg;", "bcd=efg 20;", "0-3/20/3/0");
    }

    private static void wayBounds() {
        MendedLetters x = Check.with("a;", "", "a q");
        Check.elements(x, "way(v, 0)", v -> x.way(v, 0), 0, 1);
        Check.arguments(x, "way(0, v)", v -> x.way(0, v), 0, 1);
        Check.arguments(x, "way(1, v)", v -> x.way(1, v), 0, 1);
    }

    /** "NoSuchElementException: also no such EDGE." */
    private static void edgeBounds() {
        MendedLetters x = Check.with("abc;", "", "abc q");
        Check.elements(x, "edge(0, v, 0)", v -> x.edge(0, v, 0), 0, 2);
        Check.elements(x, "edge(v, 0, 0)", v -> x.edge(v, 0, 0), 0, 0);
        Check.arguments(x, "edge(0, 2, v)", v -> x.edge(0, 2, v), 0, 4);
        for (int k : new int[] {-1, 0, 1, 23, 24, Integer.MIN_VALUE, Integer.MAX_VALUE}) {
            Check.missing(x, "edge(1, " + k + ", 0) of OUTSIDE", () -> x.edge(1, k, 0));
            Check.missing(x, "edge(1, " + k + ", 5) of OUTSIDE", () -> x.edge(1, k, 5));
        }
    }

    /** "How often a SHAPE is among EDGES by which all TOKENS are MENDED (each alone)." */
    private static void usedOften() {
        MendedLetters x = Check.with("bbbbbbbbbbbb; b;", "a=b 1; a=b 1; c=b 1;", "a".repeat(12) + " a" + "\na c q");
        Check.is("used(0)", x.used(0), 14);
        Check.is("used(1), told alike behind it", x.used(1), 0);
        Check.is("used(2)", x.used(2), 1);
        x.weigh(1, 99);
        Check.is("used(0) but of OUTSIDE", x.used(0), 12);
        Check.is("used(2) of OUTSIDE", x.used(2), 0);
        Check.reading(x, "");
        Check.is("used(0) of no TOKENS", x.used(0), 0);
        Check.reading(x, "a\na");
        Check.lexicon(x, "bb;");
        // LOST in the text, but each alone is OUTSIDE
        Check.is("LOST", x.text(2), 1);
        Check.is("used(0) of two that are LOST", x.used(0), 0);
        Check.reading(x, "a ".repeat(40));
        x.weigh(1, 0);
        Check.is("used(0) of forty", x.used(0), 40);
        Check.elements(x, "used(v)", v -> x.used(v), 0, 2);
    }
}
