import java.util.NoSuchElementException;
import java.util.function.IntSupplier;
import java.util.function.IntUnaryOperator;

/** What the tests share: texts put on the TAPE, answers held against those that are due. */
final class Check {
    private static int wrong = 0;
    private static int asked = 0;

    private Check() {
    }

    static void is(String call, long got, long due) {
        asked++;
        if (got != due) {
            wrong++;
            System.out.println(call + " answered " + got + ", due is " + due);
        }
    }

    static void is(String call, boolean got, boolean due) {
        is(call, got ? 1 : 0, due ? 1 : 0);
    }

    static void is(String call, String got, String due) {
        asked++;
        if (!got.equals(due)) {
            wrong++;
            System.out.println(call + " answered \"" + got + "\", due is \"" + due + "\"");
        }
    }

    /** The call throws NoSuchElementException, and status() counts it as that alone. */
    static void missing(MendedLetters x, String call, IntSupplier asking) {
        refusal(x, call, asking, 1, 0);
    }

    /** The call throws IllegalArgumentException, and status() counts it as that alone. */
    static void illegal(MendedLetters x, String call, IntSupplier asking) {
        refusal(x, call, asking, 0, 1);
    }

    private static void refusal(MendedLetters x, String call, IntSupplier asking, int missing, int illegal) {
        int missingBefore = x.status(0);
        int illegalBefore = x.status(1);
        String thrown = "nothing";
        try {
            asking.getAsInt();
        } catch (NoSuchElementException e) {
            thrown = "NoSuchElementException";
        } catch (IllegalArgumentException e) {
            thrown = "IllegalArgumentException";
        }
        is(call + " throws", thrown, missing == 1 ? "NoSuchElementException" : "IllegalArgumentException");
        is("status(0) behind " + call, x.status(0), missingBefore + missing);
        is("status(1) behind " + call, x.status(1), illegalBefore + illegal);
    }

    /** Puts a text on an empty TAPE; what fills its last twenty bytes is no byte of any text. */
    static void feed(MendedLetters x, String text) {
        for (int i = 0; i < text.length(); i += 20) {
            int[] numbers = new int[5];
            for (int k = 0; k < 20; k++) {
                int one = i + k < text.length() ? text.charAt(i + k) : 0;
                numbers[k / 4] = numbers[k / 4] << 8 | one;
            }
            x.feed(numbers[0], numbers[1], numbers[2], numbers[3], numbers[4]);
        }
    }

    static int lexicon(MendedLetters x, String text) {
        feed(x, text);
        return x.lexicon(text.length());
    }

    static int shapes(MendedLetters x, String text) {
        feed(x, text);
        return x.shapes(text.length());
    }

    static int reading(MendedLetters x, String text) {
        feed(x, text);
        return x.reading(text.length());
    }

    static int follows(MendedLetters x, String text) {
        feed(x, text);
        return x.follows(text.length());
    }

    /** Tells a text of a kind by its name. */
    static int tell(MendedLetters x, String kind, String text) {
        feed(x, text);
        switch (kind) {
            case "lexicon":
                return x.lexicon(text.length());
            case "shapes":
                return x.shapes(text.length());
            case "reading":
                return x.reading(text.length());
            default:
                return x.follows(text.length());
        }
    }

    /** A text that is told: how many there are then, and no FAULT. */
    static void fine(MendedLetters x, String kind, String text, int count) {
        told(x, kind, text, count, MendedLetters.NONE);
    }

    /** A text that has a FAULT: its number and its place; all stays but the TAPE, which is empty. */
    static void fault(MendedLetters x, String kind, String text, int number, int place) {
        String before = state(x);
        told(x, kind, text, number - 10, place);
        is("what stays behind " + kind + shown(text), state(x), before);
    }

    private static void told(MendedLetters x, String kind, String text, int answer, int place) {
        int missing = x.status(0);
        int illegal = x.status(1);
        String call = kind + shown(text);
        is(call, tell(x, kind, text), answer);
        is("fault() behind " + call, x.fault(), place);
        is("the TAPE behind " + call, x.told(11), 0);
        is("status(0) behind " + call, x.status(0), missing);
        is("status(1) behind " + call, x.status(1), illegal);
    }

    static String shown(String text) {
        StringBuilder all = new StringBuilder(" \"");
        for (int i = 0; i < text.length(); i++) {
            char one = text.charAt(i);
            all.append(one >= 32 && one < 127 ? String.valueOf(one) : "\\" + (int) one);
        }
        return all.append('"').toString();
    }

    /** From a least to a most the call answers; one below, one beyond and the farthest ones are no such elements. */
    static void elements(MendedLetters x, String call, IntUnaryOperator asking, int least, int most) {
        inside(x, call, asking, least, most);
        for (int one : beyond(least, most)) {
            String before = state(x);
            missing(x, call + " of " + one, () -> asking.applyAsInt(one));
            is("what stays behind " + call + " of " + one, state(x), before);
        }
    }

    /** From a least to a most the call answers; one below, one beyond and the farthest ones are illegal. */
    static void arguments(MendedLetters x, String call, IntUnaryOperator asking, int least, int most) {
        inside(x, call, asking, least, most);
        for (int one : beyond(least, most)) {
            String before = state(x);
            illegal(x, call + " of " + one, () -> asking.applyAsInt(one));
            is("what stays behind " + call + " of " + one, state(x), before);
        }
    }

    private static void inside(MendedLetters x, String call, IntUnaryOperator asking, int least, int most) {
        int refused = x.status(0) + x.status(1);
        for (int one : new int[] {least, Math.min(least + 1, most), Math.max(most - 1, least), most}) {
            if (least <= most) {
                String thrown = "nothing";
                try {
                    asking.applyAsInt(one);
                } catch (NoSuchElementException | IllegalArgumentException e) {
                    thrown = e.getClass().getSimpleName();
                }
                is(call + " of " + one + " throws", thrown, "nothing");
            }
        }
        is("refusals behind " + call + " inside", x.status(0) + x.status(1), refused);
    }

    private static int[] beyond(int least, int most) {
        return new int[] {least - 1, most + 1, Integer.MIN_VALUE, Integer.MAX_VALUE, least - 65536, most + 65536};
    }

    /** All that was told, as the calls show it: the costs, the TREE, SHAPES, the READING, FOLLOWS (of few WORDS). */
    static String state(MendedLetters x) {
        StringBuilder all = new StringBuilder();
        for (int what = 0; what <= 12; what++) {
            all.append(what == 11 ? 0 : x.told(what)).append(' ');
        }
        for (int word = 0; word < x.told(0); word++) {
            for (int what = 0; what < 4; what++) {
                all.append(x.word(word, what)).append(what < 3 ? "," : ";");
            }
            for (int next = 0; next < x.told(0) && x.told(0) < 6; next++) {
                all.append(x.dear(word, next)).append(',');
            }
        }
        for (int node = 0; node < x.told(1); node++) {
            for (int what = 0; what < 6; what++) {
                all.append(x.node(node, what)).append(what < 5 ? "," : ";");
            }
        }
        for (int shape = 0; shape < x.told(2); shape++) {
            all.append(x.shape(shape, 0)).append(x.shape(shape, 1)).append(x.shape(shape, 2)).append(';');
        }
        for (int token = 0; token < x.told(3); token++) {
            for (int what = 0; what < 7; what++) {
                all.append(x.token(token, what)).append(what < 6 ? "," : ";");
            }
            for (int cell = 0; cell < x.token(token, 0); cell++) {
                all.append(x.cell(token, cell, 0)).append(',').append(x.cell(token, cell, 2)).append(';');
            }
        }
        return all.toString();
    }

    static MendedLetters with(String lexicon, String shapes, String reading) {
        MendedLetters x = new MendedLetters();
        lexicon(x, lexicon);
        shapes(x, shapes);
        reading(x, reading);
        return x;
    }

    /** The text MENDED, by text(0) and at(). */
    static String textOf(MendedLetters x) {
        StringBuilder text = new StringBuilder();
        for (int k = 0; k < x.text(0); k++) {
            text.append((char) x.at(k));
        }
        return text.toString();
    }

    /** The best WORDS of a TOKEN as "word:price:opened", one behind the other. */
    static String bestOf(MendedLetters x, int token) {
        StringBuilder text = new StringBuilder();
        for (int j = 0; x.best(token, j, 0) != MendedLetters.NONE; j++) {
            text.append(j == 0 ? "" : " ").append(x.best(token, j, 0)).append(':').append(x.best(token, j, 1));
            text.append(':').append(x.best(token, j, 2));
        }
        return text.toString();
    }

    /** The EDGES of a TOKEN as "place-behind/cost/signs/shape". */
    static String edgesOf(MendedLetters x, int token) {
        StringBuilder text = new StringBuilder();
        for (int k = 0; k < x.way(token, 0); k++) {
            text.append(k == 0 ? "" : " ").append(x.edge(token, k, 0)).append('-').append(x.edge(token, k, 1));
            text.append('/').append(x.edge(token, k, 2)).append('/').append(x.edge(token, k, 3));
            text.append('/').append(x.edge(token, k, 4));
        }
        return text.toString();
    }

    static void end(String name) {
        System.out.println(name + ": " + asked + " answers, " + wrong + " wrong");
        if (wrong != 0) {
            System.exit(1);
        }
    }
}
