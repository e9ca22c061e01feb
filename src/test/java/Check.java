import java.util.NoSuchElementException;
import java.util.function.IntSupplier;

/** What the tests share: texts put on the TAPE, answers held against those that are due. */
final class Check {
    private static int wrong = 0;
    private static int asked = 0;

    private Check() {
    }

    static void is(String call, long got, long due) {
        asked++;
        if (got != due) {
            wrong++;
            System.out.println(call + " answered " + got + ", due is " + due);
        }
    }

    static void is(String call, boolean got, boolean due) {
        is(call, got ? 1 : 0, due ? 1 : 0);
    }

    static void is(String call, String got, String due) {
        asked++;
        if (!got.equals(due)) {
            wrong++;
            System.out.println(call + " answered \"" + got + "\", due is \"" + due + "\"");
        }
    }

    /** The call throws NoSuchElementException, and status() counts it as that alone. */
    static void missing(MendedLetters x, String call, IntSupplier asking) {
        refusal(x, call, asking, 1, 0);
    }

    /** The call throws IllegalArgumentException, and status() counts it as that alone. */
    static void illegal(MendedLetters x, String call, IntSupplier asking) {
        refusal(x, call, asking, 0, 1);
    }

    private static void refusal(MendedLetters x, String call, IntSupplier asking, int missing, int illegal) {
        int missingBefore = x.status(0);
        int illegalBefore = x.status(1);
        String thrown = "nothing";
        try {
            asking.getAsInt();
        } catch (NoSuchElementException e) {
            thrown = "NoSuchElementException";
        } catch (IllegalArgumentException e) {
            thrown = "IllegalArgumentException";
        }
        is(call + " throws", thrown, missing == 1 ? "NoSuchElementException" : "IllegalArgumentException");
        is("status(0) behind " + call, x.status(0), missingBefore + missing);
        is("status(1) behind " + call, x.status(1), illegalBefore + illegal);
    }

    /** Puts a text on an empty TAPE; what fills its last twenty bytes is no byte of any text. */
    static void feed(MendedLetters x, String text) {
        for (int i = 0; i < text.length(); i += 20) {
            int[] numbers = new int[5];
            for (int k = 0; k < 20; k++) {
                int one = i + k < text.length() ? text.charAt(i + k) : 0;
                numbers[k / 4] = numbers[k / 4] << 8 | one;
            }
            x.feed(numbers[0], numbers[1], numbers[2], numbers[3], numbers[4]);
        }
    }

    static int lexicon(MendedLetters x, String text) {
        feed(x, text);
        return x.lexicon(text.length());
    }

    static int shapes(MendedLetters x, String text) {
        feed(x, text);
        return x.shapes(text.length());
    }

    static int reading(MendedLetters x, String text) {
        feed(x, text);
        return x.reading(text.length());
    }

    static int follows(MendedLetters x, String text) {
        feed(x, text);
        return x.follows(text.length());
    }

    static MendedLetters with(String lexicon, String shapes, String reading) {
        MendedLetters x = new MendedLetters();
        lexicon(x, lexicon);
        shapes(x, shapes);
        reading(x, reading);
        return x;
    }

    /** The text MENDED, by text(0) and at(). */
    static String textOf(MendedLetters x) {
        StringBuilder text = new StringBuilder();
        for (int k = 0; k < x.text(0); k++) {
            text.append((char) x.at(k));
        }
        return text.toString();
    }

    /** The best WORDS of a TOKEN as "word:price:opened", one behind the other. */
    static String bestOf(MendedLetters x, int token) {
        StringBuilder text = new StringBuilder();
        for (int j = 0; x.best(token, j, 0) != MendedLetters.NONE; j++) {
            text.append(j == 0 ? "" : " ").append(x.best(token, j, 0)).append(':').append(x.best(token, j, 1));
            text.append(':').append(x.best(token, j, 2));
        }
        return text.toString();
    }

    /** The EDGES of a TOKEN as "place-behind/cost/signs/shape". */
    static String edgesOf(MendedLetters x, int token) {
        StringBuilder text = new StringBuilder();
        for (int k = 0; k < x.way(token, 0); k++) {
            text.append(k == 0 ? "" : " ").append(x.edge(token, k, 0)).append('-').append(x.edge(token, k, 1));
            text.append('/').append(x.edge(token, k, 2)).append('/').append(x.edge(token, k, 3));
            text.append('/').append(x.edge(token, k, 4));
        }
        return text.toString();
    }

    static void end(String name) {
        System.out.println(name + ": " + asked + " answers, " + wrong + " wrong");
        if (wrong != 0) {
            System.exit(1);
        }
    }
}
