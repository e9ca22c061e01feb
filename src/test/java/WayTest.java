/** Promises 29 to 31: the EDGES by which a TOKEN is MENDED. */
public final class WayTest {
    private static final int NONE = MendedLetters.NONE;

    public static void main(String[] args) {
        promise29();
        promise30();
        promise30First();
        promise31();
        Check.end("WayTest");
    }

    private static void promise29() {
        MendedLetters x = Check.with("mum 9; m-m 1;", "rn=m 2; u=a 1;", "rnurn zz m-\nm m?m");
        way(x, 0, 3, 4);
        way(x, 1, NONE, NONE);
        way(x, 2, 3, 1);
        way(x, 3, 3, 4);
        x.weigh(0, 99);
        way(x, 0, NONE, NONE);
        Check.illegal(x, "way(0, 2)", () -> x.way(0, 2));
        Check.illegal(x, "way(1, -1)", () -> x.way(1, -1));
        Check.missing(x, "way(4, 0)", () -> x.way(4, 0));
        Check.missing(x, "way(-1, 2)", () -> x.way(-1, 2));
    }

    private static void way(MendedLetters x, int token, int edges, int cost) {
        Check.is("way(" + token + ", 0)", x.way(token, 0), edges);
        Check.is("way(" + token + ", 1)", x.way(token, 1), cost);
    }

    private static void promise30() {
        MendedLetters x = Check.with("amuse; zab;", "xx=q; rn=m 2; v=us 3;", "arnve zz-\n? -zz-\n?");
        Check.is("EDGES", Check.edgesOf(x, 0), "0-1/0/1/-1 1-3/2/1/1 3-4/3/2/2 4-5/0/1/-1");
        Check.illegal(x, "edge(0, 0, 5)", () -> x.edge(0, 0, 5));
        Check.illegal(x, "edge(0, 3, -1)", () -> x.edge(0, 3, -1));
        Check.missing(x, "edge(0, 4, 0)", () -> x.edge(0, 4, 0));
        Check.missing(x, "edge(0, -1, 5)", () -> x.edge(0, -1, 5));
        Check.missing(x, "edge(1, 0, 0) of OUTSIDE", () -> x.edge(1, 0, 0));
        Check.missing(x, "edge(1, 0, 9) of OUTSIDE", () -> x.edge(1, 0, 9));
        Check.missing(x, "edge(3, 0, 0)", () -> x.edge(3, 0, 0));
        Check.missing(x, "edge(-1, 0, 0)", () -> x.edge(-1, 0, 0));
        MendedLetters z = Check.with("abcdefghijkl;", "", "a-b-c-d-e-f-g-h-i-j-k-l-");
        z.set(3, 1);
        way(z, 0, 24, 12);
        Check.is("the last of 24", z.edge(0, 23, 1), 24);
        MendedLetters y = Check.with("zab;", "", "-z-\na?");
        Check.is("EDGES without SIGNS", Check.edgesOf(y, 0), "0-1/3/0/-1 1-2/0/1/-1 2-3/0/0/-1 3-4/0/1/-1 4-5/4/1/-1");
    }

    private static void promise30First() {
        first("a[b5]", "b;", "a=b 5;", "0-1/5/1/-1");
        first("a[b6]", "b;", "a=b 5;", "0-1/5/1/0");
        first("a", "b;", "a=b 7; a=b 5; a=b 5;", "0-1/5/1/1");
        first("ab", "xy;", "a=x 1; b=y 2; ab=xy 3;", "0-1/1/1/0 1-2/2/1/1");
        first("ab", "xy;", "ab=xy 3; a=x 1; b=y 2;", "0-2/3/2/0");
        first("ab", "aab;", "b=ab 2; a=aa 2;", "0-1/0/1/-1 1-2/2/2/0");
        first("a--b", "a-b;", "", "0-1/0/1/-1 1-2/0/1/-1 2-3/3/0/-1 3-4/0/1/-1");
        first("a--\nb", "a-b;", "", "0-1/0/1/-1 1-2/0/1/-1 2-3/0/0/-1 3-4/0/1/-1");
        first("aa", "aaa;", "a=aa 1;", "0-1/0/1/-1 1-2/1/2/0");
        first("aaa", "aa;", "aa=a 1;", "0-1/0/1/-1 1-3/1/1/0");
        // at least COST, though not the first at its place
        first("ab", "xy;", "a=x 3; b=y 3; ab=xy 5;", "0-2/5/2/2");
    }

    private static void first(String reading, String lexicon, String shapes, String due) {
        Check.is("EDGES of " + reading, Check.edgesOf(Check.with(lexicon, shapes, reading), 0), due);
    }

    private static void promise31() {
        MendedLetters x = Check.with("mm; a 9; ab;", "rn=m 2; q=a 1; z=y;", "rnrn rnm q rn q\nb zz");
        Check.is("used(0)", x.used(0), 3);
        Check.is("used(1), each TOKEN alone", x.used(1), 2);
        Check.is("used(2)", x.used(2), 0);
        x.weigh(1, 99);
        Check.is("used(1) of OUTSIDE", x.used(1), 0);
        Check.missing(x, "used(3)", () -> x.used(3));
        Check.missing(x, "used(-1)", () -> x.used(-1));
        Check.reading(x, "");
        Check.is("used(0) of no TOKENS", x.used(0), 0);
    }
}
