/** The boundary cases of the best WORDS of a TOKEN, of one MENDED alone, of one learned (promises 11, 22 to 25). */
public final class BestBoundsTest {
    private static final int NONE = MendedLetters.NONE;

    public static void main(String[] args) {
        notSoMany();
        noWordsOrNoneThatCanBe();
        wordsOfUnlikeLength();
        sixtyBest();
        letterOfABlot();
        alikeOnes();
        openedCounts();
        dearestPrice();
        bestBounds();
        priceBounds();
        withinBounds();
        notAboveOutside();
        theNextOne();
        mendedBounds();
        learnBounds();
        learnZeroAtLeast();
        learnNinetyNineAtMost();
        learnWithoutANextOne();
        learnOutside();
        Check.end("BestBoundsTest");
    }

    /** "NONE each: there are not so many, or j is below 0." */
    private static void notSoMany() {
        MendedLetters x = Check.with("a 5; b 6; c;", "", "a[b1] c q");
        int[] some = {2, 1, 0};
        for (int token = 0; token < 3; token++) {
            for (int what = 0; what < 3; what++) {
                for (int j : new int[] {-1, -2, some[token], some[token] + 1, 59, 60, 61, Integer.MIN_VALUE,
                    Integer.MAX_VALUE, 65536, -65536}) {
                    Check.is("best(" + token + ", " + j + ", " + what + ")", x.best(token, j, what), NONE);
                }
                for (int j = 0; j < some[token]; j++) {
                    Check.is("best is one", x.best(token, j, what) != NONE, true);
                }
            }
        }
        Check.is("it is no refusal", x.status(0) + x.status(1), 0);
    }

    private static void noWordsOrNoneThatCanBe() {
        MendedLetters x = Check.with("", "", "a ?");
        for (int token = 0; token < 2; token++) {
            Check.is("best without WORDS", x.best(token, 0, 0), NONE);
            Check.is("mended without WORDS", x.mended(token, 0), NONE);
            Check.is("within without WORDS", x.within(token, 9999), 0);
        }
        Check.lexicon(x, "bb;");
        Check.is("none can be", x.best(0, 0, 0), NONE);
        Check.is("none can be", x.price(0, 0), NONE);
        Check.is("none can be", x.within(1, 9999), 0);
        x.forget();
        Check.is("forgotten", x.best(1, 0, 0), NONE);
    }

    /** A WORD must be spelled from place 0 to L: one that is shorter or longer can't be. */
    private static void wordsOfUnlikeLength() {
        MendedLetters x = Check.with("a; ab; abc; abcd;", "", "ab ?? abc");
        Check.is("ab", Check.bestOf(x, 0), "1:0:3");
        Check.is("??", x.within(1, 9999), 1);
        Check.is("abc", x.best(2, 0, 0), 2);
        Check.is("abc", x.best(2, 1, 0), NONE);
        // nothing of a BREAK or a SPECK, ahead of the first sign, behind the last one
        Check.reading(x, "-a -\na a- a-b a-\nb");
        int[] words = {0, 0, 0, 1, 1};
        int[] prices = {3, 0, 3, 3, 0};
        for (int token = 0; token < 5; token++) {
            Check.is("best(" + token + ", 0, 0)", x.best(token, 0, 0), words[token]);
            Check.is("best(" + token + ", 0, 1)", x.best(token, 0, 1), prices[token]);
            Check.is("best(" + token + ", 1, 0)", x.best(token, 1, 0), NONE);
        }
        // "-" alone may be nothing, but no WORD is nothing
        Check.reading(x, "- --");
        Check.is("-", x.best(0, 0, 0), NONE);
        Check.is("--", x.best(1, 0, 0), NONE);
    }

    private static void sixtyBest() {
        MendedLetters x = new MendedLetters();
        StringBuilder text = new StringBuilder();
        for (int i = 0; i < 60; i++) {
            text.append((char) ('a' + i % 26)).append((char) ('a' + i / 26)).append(i).append(';');
        }
        Check.fine(x, "lexicon", text.toString(), 60);
        Check.reading(x, "??");
        // in order, backwards, and mixed, so that those that wait come in many orders
        for (int step : new int[] {1, 59, 7, 13, 37, 41}) {
            for (int word = 0; word < 60; word++) {
                x.weigh(word, word * step % 60);
            }
            for (int word = 0; word < 60; word++) {
                int j = word * step % 60;
                Check.is("best(0, " + j + ", 0)", x.best(0, j, 0), word);
                Check.is("best(0, " + j + ", 1)", x.best(0, j, 1), 8 + j);
                Check.is("within", x.within(0, 8 + j), j + 1);
                Check.is("price", x.price(0, word), 8 + j);
            }
        }
        Check.is("best(0, 60, 0)", x.best(0, 60, 0), NONE);
        Check.is("within(0, 7)", x.within(0, 7), 0);
        Check.is("within(0, 9999)", x.within(0, 9999), 60);
    }

    /** "of a BLOT each letter a to z": no "-", and no more than one of them. */
    private static void letterOfABlot() {
        for (char letter = 'a'; letter <= 'z'; letter++) {
            MendedLetters x = Check.with(letter + "; " + letter + letter + "; " + letter + "-" + letter + ";", "", "? ?? ???");
            Check.is("? for " + letter, Check.bestOf(x, 0), "0:4:2");
            Check.is("?? for " + letter, Check.bestOf(x, 1), "1:8:3");
            Check.is("??? for " + letter, Check.bestOf(x, 2), "");
        }
    }

    /** "of alike ones an ANSWER ahead of STATES (.. of the lesser WORD), of STATES the one of the greater place, ..". */
    private static void alikeOnes() {
        // both ANSWERS wait: the lesser WORD, though its NODE is the greater
        best("ab; b 5; bc; a 5;", "", "?", "1:9:3 3:9:3");
        best("ab; a 5; bc; b 5;", "", "?", "1:9:3 3:9:3");
        best("ab; b 6; bc; a 5;", "", "?", "3:9:3 1:10:3");
        // an ANSWER ahead of a STATE, though the STATE's WORD is the lesser
        best("ab; b 3; ac; a 3;", "", "?", "3:7:2 1:7:3");
        best("ab; b 2; ac; a 3;", "", "?", "1:6:3 3:7:3");
        // of STATES of one place the lesser NODE, though its WORD is the greater
        best("b; a;", "", "?", "0:4:2 1:4:3");
        best("ba; a; b;", "", "?", "2:4:2 1:4:3");
        best("ba; a; b 1;", "", "?", "1:4:3 2:5:3");
        // the STATE of place 2 ahead of that of place 1, though its NODE is greater
        best("ab 1; c;", "ab=c 1;", "ab", "1:1:2 0:1:4");
        best("ab; c;", "ab=c 1;", "ab", "0:0:3 1:1:4");
        best("ab 2; c;", "ab=c 1;", "ab", "1:1:2 0:2:4");
    }

    private static void best(String lexicon, String shapes, String reading, String due) {
        MendedLetters x = Check.with(lexicon, shapes, reading);
        Check.is("best of " + reading + " in " + lexicon, Check.bestOf(x, 0), due);
    }

    /** "2 how many STATES had been OPENED as it was taken". */
    private static void openedCounts() {
        // the first STATE and one for each CELL
        MendedLetters x = Check.with("abcdefghijkl;", "", "abcdefghijkl");
        Check.is("OPENED", x.best(0, 0, 2), 13);
        // "one that waits already has the lesser COST, one that has been OPENED is none": it counts once
        best("b;", "a=b 1; a=b 2; a=b 3;", "a[b4 b5 b6]", "0:1:2");
        best("cd;", "ab=cd 1; a=c 5; b=d 5;", "ab", "0:1:2");
        best("cd;", "a=c 1; b=d 1; ab=cd 9;", "ab", "0:2:3");
        // it has the lesser COST among others that wait, once or twice, made less by one STATE or by a later one
        best("c; b;", "", "a[c2 b3 b1]", "1:1:2 0:2:3");
        best("b; c; d; e;", "a=b 9; a=c 8; a=d 7; a=e 6; a=b 1; a=d 2;", "a", "0:1:2 2:2:3 3:6:4 1:8:5");
        best("b; c; d; e;", "a=e 9; a=d 8; a=c 7; a=b 6; a=e 5; a=e 1;", "a", "3:1:2 0:6:3 1:7:4 2:8:5");
        best("xy; pq; rs;", "ab=xy 9; ab=pq 8; ab=rs 7; a=x 1; b=y 1;", "ab", "0:2:3 2:7:4 1:8:5");
        best("xy; pq; rs; tu;", "ab=xy 20; ab=tu 19; ab=pq 8; ab=rs 7; a=x 1; b=y 3; a=t 2; b=u 3;", "ab",
                "0:4:4 3:5:5 2:7:6 1:8:7");
        // and the greater COST does not count, where a lesser one waits
        best("b; c;", "a=b 1; a=c 2; a=b 3;", "a", "0:1:2 1:2:3");
        // each TOKEN is counted from its own beginning on, and anew when something was told
        MendedLetters z = Check.with("ab; cd;", "", "ab cd abc ab");
        Check.is("OPENED of the second TOKEN", z.best(1, 0, 2), 3);
        Check.is("OPENED of the first TOKEN", z.best(0, 0, 2), 3);
        Check.is("none of the third", z.best(2, 0, 2), NONE);
        Check.is("OPENED of the fourth", z.best(3, 0, 2), 3);
        z.set(0, 30);
        Check.is("OPENED anew", z.best(0, 0, 2), 3);
        Check.is("apart", z.apart(0, 1), NONE);
        Check.is("OPENED anew", z.best(1, 0, 2), 3);
        // asked for the last one first: it is as it was taken, whoever asks when
        MendedLetters y = Check.with("a; b; c;", "", "?");
        Check.is("OPENED of the third", y.best(0, 2, 2), 4);
        Check.is("OPENED of the first", y.best(0, 0, 2), 2);
        Check.is("OPENED of the second", y.best(0, 1, 2), 3);
    }

    /** The dearest a WORD can be for a TOKEN. */
    private static void dearestPrice() {
        MendedLetters x = Check.with("abcdefghijkl 99;", "", "?".repeat(12) + " " + "?-".repeat(12) + " a[b99]");
        x.set(2, 99);
        x.set(3, 99);
        Check.is("PRICE of twelve BLOTS", x.price(0, 0), 12 * 99 + 99);
        Check.is("PRICE of twelve BLOTS and SPECKS", x.price(1, 0), 24 * 99 + 99);
        Check.is("within", x.within(1, 2474), 0);
        Check.is("within", x.within(1, 2475), 1);
        Check.is("OUTSIDE", x.mended(1, 0), NONE);
        Check.is("how much more", x.mended(1, 2), 2475 - 68);
        x.set(0, 999);
        x.set(1, 62);
        Check.is("OUTSIDE is as dear as 2487", x.mended(1, 0), 0);
        Check.is("how much more", x.mended(1, 2), 12);
        x.set(1, 61);
        Check.is("OUTSIDE is as dear as 2463", x.mended(1, 0), NONE);
    }

    private static void bestBounds() {
        MendedLetters x = Check.with("a; b;", "", "a b");
        Check.elements(x, "best(v, 0, 0)", v -> x.best(v, 0, 0), 0, 1);
        Check.arguments(x, "best(1, 0, v)", v -> x.best(1, 0, v), 0, 2);
        Check.arguments(x, "best(1, 99, v)", v -> x.best(1, 99, v), 0, 2);
        Check.missing(x, "best(2, -1, 3)", () -> x.best(2, -1, 3));
    }

    /** "NONE: it can't be." */
    private static void priceBounds() {
        MendedLetters x = Check.with("a; b 99;", "", "a b");
        Check.elements(x, "price(v, 0)", v -> x.price(v, 0), 0, 1);
        Check.elements(x, "price(0, v)", v -> x.price(0, v), 0, 1);
        Check.missing(x, "price(2, 2)", () -> x.price(2, 2));
        Check.is("a for a", x.price(0, 0), 0);
        Check.is("b for a", x.price(0, 1), NONE);
        Check.is("b for b, above OUTSIDE", x.price(1, 1), 99);
        Check.is("no other refusals", x.status(1), 0);
    }

    /** "so much at most (0 to 9,999)". */
    private static void withinBounds() {
        MendedLetters x = Check.with("a; b 1; c 99;", "", "a[b1 c99] q");
        Check.arguments(x, "within(0, v)", v -> x.within(0, v), 0, 9999);
        Check.arguments(x, "within(1, v)", v -> x.within(1, v), 0, 9999);
        Check.elements(x, "within(v, 0)", v -> x.within(v, 0), 0, 1);
        int[][] due = {{0, 1}, {1, 1}, {2, 2}, {3, 2}, {197, 2}, {198, 3}, {199, 3}, {9998, 3}, {9999, 3}};
        for (int[] one : due) {
            Check.is("within(0, " + one[0] + ")", x.within(0, one[0]), one[1]);
            Check.is("within(1, " + one[0] + ")", x.within(1, one[0]), 0);
        }
    }

    /** "MENDED a TOKEN is its best WORD, if there is one and its PRICE is not above that of OUTSIDE". */
    private static void notAboveOutside() {
        MendedLetters x = Check.with("a;", "", "a");
        int[] weights = {21, 22, 23};
        int[] word = {0, 0, NONE};
        int[] price = {21, 22, 22};
        int[] more = {1, 0, 1};
        for (int i = 0; i < 3; i++) {
            x.weigh(0, weights[i]);
            mended(x, 0, word[i], price[i], more[i]);
        }
        x.set(0, 0);
        x.set(1, 0);
        mended(x, 0, NONE, 0, 23);
        x.weigh(0, 0);
        mended(x, 0, 0, 0, 0);
        x.weigh(0, 1);
        mended(x, 0, NONE, 0, 1);
    }

    private static void mended(MendedLetters x, int token, int word, int price, int more) {
        Check.is("mended(" + token + ", 0)", x.mended(token, 0), word);
        Check.is("mended(" + token + ", 1)", x.mended(token, 1), price);
        Check.is("mended(" + token + ", 2)", x.mended(token, 2), more);
    }

    /** "the second best WORD or OUTSIDE, the one of the lesser PRICE; of OUTSIDE the best WORD; NONE: there is none". */
    private static void theNextOne() {
        MendedLetters x = Check.with("a 5; b 20;", "", "a[b1] a q");
        mended(x, 0, 0, 5, 16);
        mended(x, 1, 0, 5, 17);
        mended(x, 2, NONE, 22, NONE);
        x.weigh(1, 21);
        mended(x, 0, 0, 5, 17);
        x.weigh(1, 22);
        mended(x, 0, 0, 5, 17);
        x.weigh(1, 4);
        mended(x, 0, 0, 5, 0);
        x.weigh(1, 3);
        mended(x, 0, 1, 4, 1);
        x.weigh(0, 99);
        x.weigh(1, 99);
        mended(x, 0, NONE, 22, 77);
        x.forget();
        mended(x, 0, NONE, 22, NONE);
    }

    private static void mendedBounds() {
        MendedLetters x = Check.with("a;", "", "a q");
        Check.elements(x, "mended(v, 0)", v -> x.mended(v, 0), 0, 1);
        Check.arguments(x, "mended(0, v)", v -> x.mended(0, v), 0, 2);
        Check.arguments(x, "mended(1, v)", v -> x.mended(1, v), 0, 2);
    }

    private static void learnBounds() {
        MendedLetters none = new MendedLetters();
        Check.missing(none, "learn(0)", () -> none.learn(0));
        MendedLetters x = Check.with("a 50; b 50;", "", "a b");
        x.set(0, 999);
        Check.elements(x, "learn(v)", v -> x.learn(v), 0, 1);
        // inside was asked 0, 1, 0, 1
        Check.is("WEIGHT of a", x.word(0, 1), 48);
        Check.is("WEIGHT of b", x.word(1, 1), 48);
        Check.is("no other refusals", x.status(1), 0);
    }

    private static void learn(MendedLetters x, int answer, int first, int second) {
        Check.is("learn(0)", x.learn(0), answer);
        Check.is("WEIGHT of the first", x.word(0, 1), first);
        Check.is("WEIGHT of the second", x.word(1, 1), second);
    }

    /** "1 less (0 at least)". */
    private static void learnZeroAtLeast() {
        MendedLetters x = Check.with("a 2; b 2;", "", "a[b9]");
        learn(x, 0, 1, 3);
        learn(x, 0, 0, 4);
        learn(x, 0, 0, 5);
        learn(x, 0, 0, 6);
        Check.is("LEAST", x.node(0, 3), 0);
    }

    /** "1 more (99 at most)". */
    private static void learnNinetyNineAtMost() {
        MendedLetters x = Check.with("a 3; b 97;", "", "a[b9]");
        learn(x, 0, 2, 98);
        learn(x, 0, 1, 99);
        learn(x, 0, 0, 99);
        learn(x, 0, 0, 99);
        Check.is("PRICE", x.price(0, 1), 108);
    }

    /** "that of the next best one, if there is one". */
    private static void learnWithoutANextOne() {
        MendedLetters x = Check.with("a 3; b 97;", "", "a");
        learn(x, 0, 2, 97);
        MendedLetters y = Check.with("a 3;", "", "a[b1]");
        Check.is("learn(0)", y.learn(0), 0);
        Check.is("WEIGHT", y.word(0, 1), 2);
        // only the second best one: the third stays
        MendedLetters z = Check.with("a; b 1; c 2;", "", "?");
        learn(z, 0, 0, 2);
        Check.is("WEIGHT of the third", z.word(2, 1), 2);
        // alike ones: the first as it is taken
        MendedLetters w = Check.with("a 7; b 7;", "", "?");
        learn(w, 0, 6, 8);
        x.weigh(0, 22);
        learn(x, 0, 21, 97);
    }

    /** "NONE, and nothing is: it is OUTSIDE". */
    private static void learnOutside() {
        MendedLetters x = Check.with("a 23; b 50;", "", "a[b1]");
        learn(x, NONE, 23, 50);
        x.weigh(0, 22);
        learn(x, 0, 21, 51);
        Check.reading(x, "q");
        String before = Check.state(x);
        Check.is("learn", x.learn(0), NONE);
        Check.is("nothing is", Check.state(x), before);
        x.forget();
        Check.is("learn without WORDS", x.learn(0), NONE);
        Check.is("it is no refusal", x.status(0) + x.status(1), 0);
    }
}
