/** Promise 38: refusals, counted by reason, and that nothing else is changed by one. */
public final class StatusTest {
    public static void main(String[] args) {
        MendedLetters x = Check.with("ab 3; b;", "a=b;", "ab b");
        Check.is("status(0)", x.status(0), 0);
        Check.is("status(1)", x.status(1), 0);
        Check.is("status(2)", x.status(2), MendedLetters.NONE);
        Check.is("status(-1)", x.status(-1), MendedLetters.NONE);
        Check.is("status(least)", x.status(Integer.MIN_VALUE), MendedLetters.NONE);
        Check.is("status(most)", x.status(Integer.MAX_VALUE), MendedLetters.NONE);
        for (int i = 0; i < 5; i++) {
            Check.missing(x, "word(9, 9)", () -> x.word(9, 9));
            Check.illegal(x, "word(0, 9)", () -> x.word(0, 9));
            Check.missing(x, "edge(0, 9, 9)", () -> x.edge(0, 9, 9));
        }
        Check.is("status(0)", x.status(0), 10);
        Check.is("status(1)", x.status(1), 5);
        Check.lexicon(x, "ab;");
        x.best(0, 9, 0);
        x.sign(0, 99);
        x.at(-1);
        Check.is("a FAULT and NONE are no refusals", x.status(0) + x.status(1), 15);
        x.forget();
        Check.reading(x, "");
        Check.is("they stay", x.status(0) * 100 + x.status(1), 1005);
        Check.end("StatusTest");
    }
}
