import java.util.NoSuchElementException;

/** The boundary cases of a new object, of costs that are set, of what was told, of refusals (promises 1, 9, 12, 38). */
public final class CostBoundsTest {
    private static final int NONE = MendedLetters.NONE;
    private static final int[] FIRST = {20, 2, 4, 3, 1, 8, 0};
    private static final int[] TOLD = {5, 6, 7, 8, 9, 10, 12};

    public static void main(String[] args) {
        aNewObject();
        aNewObjectRefuses();
        twoObjects();
        setBounds();
        setAnotherArgument();
        setCounts();
        toldBounds();
        statusBounds();
        statusOfEachCall();
        missingAheadOfIllegal();
        askedNothingStaysChanged();
        Check.end("CostBoundsTest");
    }

    /** "No WORDS, SHAPES, no READING." */
    private static void aNewObject() {
        MendedLetters x = new MendedLetters();
        int[] due = {0, 1, 0, 0, 0, 20, 2, 4, 3, 1, 8, 0, 0};
        for (int what = 0; what < due.length; what++) {
            Check.is("told(" + what + ")", x.told(what), due[what]);
        }
        Check.is("fault", x.fault(), NONE);
        Check.is("forget", x.forget(), 0);
        Check.is("find(0)", x.find(0), NONE);
        for (int what = 0; what < 4; what++) {
            Check.is("text(" + what + ")", x.text(what), 0);
        }
        for (int what = 0; what < 3; what++) {
            Check.is("sentence(" + what + ")", x.sentence(what), 0);
        }
        for (int k = -1; k <= 1; k++) {
            Check.is("at(" + k + ")", x.at(k), NONE);
        }
        Check.is("twins(0)", x.twins(0), 0);
        Check.is("twins(999)", x.twins(999), 0);
        Check.is("status(0)", x.status(0), 0);
        Check.is("status(1)", x.status(1), 0);
        Check.is("follows(0)", x.follows(0), 0);
    }

    /** There is nothing yet of which a call could ask: even the first one of each is none such. */
    private static void aNewObjectRefuses() {
        MendedLetters x = new MendedLetters();
        for (int one : new int[] {0, -1, 1, Integer.MIN_VALUE, Integer.MAX_VALUE}) {
            Check.missing(x, "weigh", () -> x.weigh(one, 0));
            Check.missing(x, "learn", () -> x.learn(one));
            Check.missing(x, "word", () -> x.word(one, 0));
            Check.missing(x, "sign", () -> x.sign(one, 0));
            Check.missing(x, "shape", () -> x.shape(one, 0));
            Check.missing(x, "token", () -> x.token(one, 0));
            Check.missing(x, "cell", () -> x.cell(one, 0, 0));
            Check.missing(x, "rest", () -> x.rest(one, 0));
            Check.missing(x, "best", () -> x.best(one, 0, 0));
            Check.missing(x, "price", () -> x.price(one, 0));
            Check.missing(x, "within", () -> x.within(one, 0));
            Check.missing(x, "mended", () -> x.mended(one, 0));
            Check.missing(x, "lost", () -> x.lost(one, 0) ? 1 : 0);
            Check.missing(x, "way", () -> x.way(one, 0));
            Check.missing(x, "edge", () -> x.edge(one, 0, 0));
            Check.missing(x, "used", () -> x.used(one));
            Check.missing(x, "dear", () -> x.dear(one, 0));
            Check.missing(x, "said", () -> x.said(one));
            Check.missing(x, "apart", () -> x.apart(one, 0));
            Check.missing(x, "twin", () -> x.twin(one, 0));
            if (one != 0) {
                Check.missing(x, "node", () -> x.node(one, 0));
                Check.missing(x, "child", () -> x.child(one, 'a'));
                Check.illegal(x, "lexicon", () -> x.lexicon(one));
                Check.illegal(x, "find", () -> x.find(one));
            }
        }
    }

    /** What one object was told, another one was not. */
    private static void twoObjects() {
        MendedLetters x = Check.with("a;", "a=b;", "a");
        x.set(0, 7);
        x.feed(1, 2, 3, 4, 5);
        MendedLetters y = new MendedLetters();
        Check.is("OUT of the other", y.told(5), 20);
        Check.is("WORDS of the other", y.told(0), 0);
        Check.is("TAPE of the other", y.told(11), 0);
        Check.missing(y, "word(0, 0)", () -> y.word(0, 0));
        Check.is("refusals of the first", x.status(0), 0);
        Check.is("OUT of the first", x.told(5), 7);
    }

    /** "0 OUT (0 to 999), 1 EACH (0 to 99), 2 BLOT, .. 6 STRANGE (0 to 99 each): what it was". */
    private static void setBounds() {
        MendedLetters x = new MendedLetters();
        for (int i = 0; i < 7; i++) {
            int what = i;
            int most = what == 0 ? 999 : 99;
            Check.is("at first", x.told(TOLD[what]), FIRST[what]);
            Check.is("set(" + what + ", 0)", x.set(what, 0), FIRST[what]);
            Check.is("told", x.told(TOLD[what]), 0);
            Check.is("set(" + what + ", 1)", x.set(what, 1), 0);
            Check.is("set(" + what + ", " + most + ")", x.set(what, most), 1);
            Check.is("told", x.told(TOLD[what]), most);
            Check.arguments(x, "set(" + what + ", v)", v -> x.set(what, v), 0, most);
            Check.is("what it was, behind refusals", x.set(what, FIRST[what]), most);
        }
        // the others stay
        for (int what = 0; what < 7; what++) {
            x.set(what, 50 + what);
        }
        for (int what = 0; what < 7; what++) {
            Check.is("told(" + TOLD[what] + ")", x.told(TOLD[what]), 50 + what);
        }
    }

    /** "IllegalArgumentException: another argument (so below)." */
    private static void setAnotherArgument() {
        MendedLetters x = new MendedLetters();
        Check.arguments(x, "set(v, 1)", v -> x.set(v, 1), 0, 6);
        for (int what = 1; what < 7; what++) {
            int one = what;
            Check.illegal(x, "set(" + what + ", 100)", () -> x.set(one, 100));
            Check.illegal(x, "set(" + what + ", 999)", () -> x.set(one, 999));
        }
        Check.illegal(x, "set(7, 100)", () -> x.set(7, 100));
        Check.illegal(x, "set(-1, -1)", () -> x.set(-1, -1));
        Check.is("OUT of 100", x.set(0, 100), 1);
    }

    /** Each cost counts at once, 0 and its most alike. */
    private static void setCounts() {
        MendedLetters x = Check.with("ab; a-b; axb;", "", "a?b a-b a-\nb q\nq");
        for (int v : new int[] {0, 1, 99}) {
            // one at a time: the others are 7
            for (int what = 2; what <= 6; what++) {
                for (int other = 2; other <= 6; other++) {
                    x.set(other, other == what ? v : 7);
                }
                Check.is("BLOT", x.price(0, 2), what == 2 ? v : 7);
                Check.is("SPECK", x.price(1, 0), what == 3 ? v : 7);
                Check.is("apart by a SPECK", x.apart(1, 0), what == 3 ? v : 7);
                Check.is("KEPT", x.price(2, 1), what == 4 ? v : 7);
                Check.is("STRANGE", x.dear(0, 1), what == 6 ? v : 7);
            }
        }
        MendedLetters y = Check.with("ab;", "", "a\nb");
        for (int v : new int[] {0, 43, 44, 99}) {
            y.set(5, v);
            Check.is("LOST of " + v, y.text(1), Math.min(44, v));
            Check.is("LOST of " + v, y.text(2), v < 44 ? 1 : 0);
        }
    }

    private static void toldBounds() {
        MendedLetters x = new MendedLetters();
        Check.arguments(x, "told(v)", v -> x.told(v), 0, 12);
        MendedLetters y = Check.with("a;b;", "a=b;", "a\nb\nc");
        y.feed(0, 0, 0, 0, 0);
        int[] due = {2, 3, 1, 3, 3, 20, 2, 4, 3, 1, 8, 20, 0};
        for (int what = 0; what < due.length; what++) {
            Check.is("told(" + what + ")", y.told(what), due[what]);
        }
        Check.arguments(y, "told(v)", v -> y.told(v), 0, 12);
    }

    /** "NONE for others". */
    private static void statusBounds() {
        MendedLetters x = new MendedLetters();
        Check.illegal(x, "told(13)", () -> x.told(13));
        Check.missing(x, "said(0)", () -> x.said(0));
        Check.missing(x, "said(0)", () -> x.said(0));
        for (int what : new int[] {-1, 2, 3, -2, 65536, 65537, Integer.MIN_VALUE, Integer.MAX_VALUE}) {
            Check.is("status(" + what + ")", x.status(what), NONE);
        }
        Check.is("status(0)", x.status(0), 2);
        Check.is("status(1)", x.status(1), 1);
    }

    /** "How many calls were refused": each call that throws counts once, none that answers NONE or has a FAULT. */
    private static void statusOfEachCall() {
        MendedLetters x = Check.with("a;", "a=b;", "a zz");
        for (int i = 0; i < 21; i++) {
            x.feed(-1, -1, -1, -1, -1);
        }
        Check.is("find", x.find(400), NONE);
        Check.is("a FAULT", x.lexicon(400), -9);
        Check.is("a FAULT", x.shapes(0), 0);
        x.sign(0, -1);
        x.child(0, -1);
        x.cell(0, 0, 2);
        x.best(0, -1, 0);
        x.best(0, 99, 0);
        x.price(1, 0);
        x.mended(1, 0);
        x.learn(1);
        x.at(-1);
        x.at(999);
        x.way(1, 0);
        x.said(1);
        x.twin(0, 0);
        x.status(9);
        x.node(0, 0);
        Check.is("no refusals", x.status(0) + x.status(1), 0);
        for (int i = 1; i <= 100; i++) {
            refuse(() -> x.text(4));
            Check.is("status(1)", x.status(1), i);
            refuse(() -> x.token(2, 0));
            Check.is("status(0)", x.status(0), i);
        }
        x.forget();
        x.reading(0);
        Check.is("they stay", x.status(0) + x.status(1), 200);
    }

    private static void refuse(java.util.function.IntSupplier asking) {
        try {
            asking.getAsInt();
        } catch (NoSuchElementException | IllegalArgumentException e) {
            return;
        }
    }

    /** "no such WORD, NODE, TOKEN, CELL, place, SHAPE (so below, ahead of others)"; "also no such EDGE". */
    private static void missingAheadOfIllegal() {
        MendedLetters x = Check.with("a;", "a=b;", "a zz");
        for (int other : new int[] {-1, 10000, Integer.MIN_VALUE, Integer.MAX_VALUE}) {
            for (int one : new int[] {-1, 2, 721, Integer.MIN_VALUE, Integer.MAX_VALUE}) {
                Check.missing(x, "weigh", () -> x.weigh(one, other));
                Check.missing(x, "word", () -> x.word(one, other));
                Check.missing(x, "node", () -> x.node(one, other));
                Check.missing(x, "shape", () -> x.shape(one, other));
                Check.missing(x, "token", () -> x.token(one, other));
                Check.missing(x, "cell of no TOKEN", () -> x.cell(one, 0, other));
                Check.missing(x, "no such CELL", () -> x.cell(0, one, other));
                Check.missing(x, "best", () -> x.best(one, 0, other));
                Check.missing(x, "within", () -> x.within(one, other));
                Check.missing(x, "mended", () -> x.mended(one, other));
                Check.missing(x, "lost", () -> x.lost(one, other) ? 1 : 0);
                Check.missing(x, "way", () -> x.way(one, other));
                Check.missing(x, "edge of no TOKEN", () -> x.edge(one, 0, other));
                Check.missing(x, "no such EDGE", () -> x.edge(0, one, other));
                Check.missing(x, "EDGE of OUTSIDE", () -> x.edge(1, 0, other));
                Check.missing(x, "twin", () -> x.twin(one, other));
            }
            Check.illegal(x, "weigh", () -> x.weigh(0, other));
            Check.illegal(x, "word", () -> x.word(0, other));
            Check.illegal(x, "node", () -> x.node(0, other));
            Check.illegal(x, "shape", () -> x.shape(0, other));
            Check.illegal(x, "token", () -> x.token(0, other));
            Check.illegal(x, "cell", () -> x.cell(0, 0, other));
            Check.illegal(x, "best", () -> x.best(0, 0, other));
            Check.illegal(x, "best of no such j", () -> x.best(0, -1, other));
            Check.illegal(x, "within", () -> x.within(0, other));
            Check.illegal(x, "mended", () -> x.mended(0, other));
            Check.illegal(x, "lost", () -> x.lost(0, other) ? 1 : 0);
            Check.illegal(x, "way", () -> x.way(0, other));
            Check.illegal(x, "way of OUTSIDE", () -> x.way(1, other));
            Check.illegal(x, "edge", () -> x.edge(0, 0, other));
            Check.illegal(x, "twin", () -> x.twin(0, other));
        }
    }

    /** "Asked, nothing stays changed." */
    private static void askedNothingStaysChanged() {
        MendedLetters x = Check.with("burn 3; bum 2; bu-m 9;", "rn=m 2; u=a;", "burn b?m\nbu-\nm bu\nrn zz");
        Check.follows(x, "burn bum 4; bum burn 9;");
        x.feed(0x6275726E, 0, 0, 0, 0);
        String before = Check.state(x);
        String first = asked(x);
        Check.is("asked again", asked(x), first);
        Check.is("what was told", Check.state(x), before);
        Check.is("the TAPE", x.told(11), 20);
        Check.is("find", x.find(4), 0);
        Check.is("refusals", x.status(0) + x.status(1), 0);
    }

    private static String asked(MendedLetters x) {
        StringBuilder all = new StringBuilder();
        for (int token = 0; token < x.told(3); token++) {
            all.append(Check.bestOf(x, token)).append(Check.edgesOf(x, token));
            for (int what = 0; what < 3; what++) {
                all.append(x.mended(token, what)).append(',');
            }
            all.append(x.lost(token, 0)).append(x.said(token)).append(x.within(token, 9)).append(x.price(token, 1));
            all.append(x.rest(token, 0)).append(x.way(token, 1)).append(';');
        }
        all.append(Check.textOf(x)).append(x.text(1)).append(x.sentence(0)).append(x.sentence(1));
        for (int word = 0; word < 3; word++) {
            all.append(x.twin(word, 0)).append(x.twin(word, 1)).append(x.apart(word, 1)).append(x.dear(word, 0));
        }
        return all.append(x.twins(99)).append(x.used(0)).append(x.used(1)).append(x.fault()).toString();
    }
}
