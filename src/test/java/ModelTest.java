import java.lang.reflect.InvocationTargetException;
import java.lang.reflect.Method;
import java.util.ArrayList;
import java.util.List;
import java.util.NoSuchElementException;
import java.util.Random;

/** Long runs of calls, made by a fixed seed, on MendedLetters and on the plain model: every answer is the same. */
public final class ModelTest {
    private static final String[] CHANGES = {"set", "weigh", "learn", "forget"};
    private static final String[] QUESTIONS = {"fault", "told", "word", "sign", "find", "node", "child", "shape",
        "token", "cell", "rest", "best", "price", "within", "mended", "text", "at", "lost", "way", "edge", "used",
        "dear", "sentence", "said", "apart", "twin", "twins"};

    private final Random random;
    private final MendedLetters mended = new MendedLetters();
    private final PlainModel plain = new PlainModel();
    private final List<String> words = new ArrayList<>();
    private final List<String[]> shapes = new ArrayList<>();
    private final StringBuilder told = new StringBuilder();
    private int missing = 0;
    private int illegal = 0;

    private ModelTest(int seed) {
        random = new Random(seed);
    }

    public static void main(String[] args) {
        int runs = args.length > 0 ? Integer.parseInt(args[0]) : 1000;
        int first = args.length > 1 ? Integer.parseInt(args[1]) : 0;
        for (int seed = first; seed < first + runs; seed++) {
            new ModelTest(seed).run(seed);
        }
        for (int seed = first; seed < first + runs / 10; seed++) {
            new ModelTest(seed).runLarge(seed);
            new ModelTest(seed).runLimits(seed);
        }
        Check.end("ModelTest");
    }

    private void run(int seed) {
        told.append("seed ").append(seed).append('\n');
        tell("lexicon", lexiconText());
        tell("shapes", shapesText());
        tell("reading", readingText());
        for (int i = 0; i < 60; i++) {
            int kind = random.nextInt(100);
            if (kind < 4) {
                tell("lexicon", spoiled(lexiconText()));
            } else if (kind < 8) {
                tell("shapes", spoiled(shapesText()));
            } else if (kind < 16) {
                tell("reading", spoiled(readingText()));
            } else if (kind < 22) {
                tell("follows", spoiled(followsText()));
            } else if (kind < 34) {
                change();
            } else {
                ask(QUESTIONS[random.nextInt(QUESTIONS.length)]);
            }
        }
        askAll();
        Check.is(told + "status(0)", mended.status(0), missing);
        Check.is(told + "status(1)", mended.status(1), illegal);
    }

    /** Near the document's limits; what the model answers by trying all ways is asked for a few TOKENS alone. */
    private void runLarge(int seed) {
        told.append("large seed ").append(seed).append('\n');
        java.util.Set<String> all = new java.util.TreeSet<>();
        int count = 20 + random.nextInt(41);
        int longest = 4 + random.nextInt(9);
        for (int i = 0; i < 2000 && all.size() < count; i++) {
            all.add(fewLetters(1 + random.nextInt(longest)));
        }
        words.addAll(all);
        java.util.Collections.shuffle(words, random);
        for (int i = 0; i < words.size(); i += 15) {
            StringBuilder text = new StringBuilder();
            words.subList(i, Math.min(i + 15, words.size())).forEach(w -> text.append(w).append(random.nextInt(12)).append(';'));
            tell("lexicon", text.toString());
        }
        StringBuilder parts = new StringBuilder();
        for (int i = random.nextInt(30); i > 9; i--) {
            String first = fewLetters(1 + random.nextInt(3));
            String second = fewLetters(1 + random.nextInt(3));
            parts.append(first.equals(second) ? "" : first + "=" + second + (1 + random.nextInt(9)) + ";");
        }
        tell("shapes", parts.toString());
        tell("reading", many(this::longToken, 380));
        int tokens = mended.told(3);
        for (int token = 0; token < tokens; token++) {
            for (int j = 0; j < mended.told(0) + 1 && j < 40; j++) {
                both("best", token, j, 0);
                both("best", token, j, 1);
                both("best", token, j, 2);
            }
            both("price", token, near(mended.told(0)));
            both("within", token, random.nextInt(200));
            both("token", token, 3);
            both("token", token, 6);
            both("mended", token, 0);
            both("mended", token, 1);
            both("mended", token, 2);
            both("rest", token, random.nextInt(20));
            both("way", token, 1);
        }
        for (int i = 0; i < 100; i++) {
            both("apart", near(mended.told(0)), near(mended.told(0)));
            both("node", near(mended.told(1)), random.nextInt(6));
            both("child", near(mended.told(1)), letter());
        }
        askWhole();
        tell("reading", brokenWords());
        askWhole();
        tell("reading", readingText());
        askWhole();
    }

    /** WORDS, most of them broken by a NEWLINE without a hyphen, up to 40 TOKENS. */
    private String brokenWords() {
        StringBuilder text = new StringBuilder();
        int tokens = 0;
        for (int i = 0; i < 40 && tokens < 39 && text.length() < 340; i++) {
            StringBuilder word = new StringBuilder(words.get(random.nextInt(words.size())));
            if (random.nextInt(3) == 0) {
                word.setCharAt(random.nextInt(word.length()), random.nextInt(3) == 0 ? '-' : '?');
            }
            int cut = random.nextInt(word.length());
            if (cut > 0) {
                word.insert(cut, '\n');
            }
            tokens += cut > 0 ? 2 : 1;
            text.append(word).append(random.nextInt(4) == 0 ? " " : "\n");
        }
        return text.toString();
    }

    /** The text MENDED and THE SENTENCE of as many TOKENS as there are, with LOST ones, with FOLLOWS and without. */
    private void askWhole() {
        for (int i = 0; i < 2; i++) {
            for (int what = 0; what < 4; what++) {
                both("text", what);
                both("sentence", what);
            }
            for (int token = 0; token < mended.told(3); token++) {
                both("lost", token, 0);
                both("lost", token, 1);
                both("said", token);
            }
            for (int k = mended.text(0); k >= 0; k--) {
                both("at", k);
            }
            both("set", 5, random.nextInt(4));
            // dear strangers, so that worse WORDS are said, down to the fourth
            both("set", 6, random.nextBoolean() ? random.nextInt(8) : 90);
            both("set", 0, 20 + random.nextInt(90));
            tell("follows", many(this::oneOfFollows, 360));
        }
    }

    private String oneOfFollows() {
        String first = words.get(random.nextInt(words.size()));
        return first + " " + words.get(random.nextInt(words.size())) + random.nextInt(12) + ";";
    }

    /** Texts that end just below, at or just beyond the most of each kind. */
    private void runLimits(int seed) {
        told.append("limits seed ").append(seed).append('\n');
        for (int i = 0; i < 6; i++) {
            tell("lexicon", limitLexicon());
            tell("shapes", limitShapes());
            tell("reading", limitReading());
            tell("follows", limitFollows());
            for (int what = 0; what < 13; what++) {
                both("told", what);
            }
            for (int k = 0; k < 20; k++) {
                both("word", near(mended.told(0)), near(4));
                both("node", near(mended.told(1)), near(6));
                both("shape", near(mended.told(2)), near(3));
                both("token", near(mended.told(3)), near(7));
                both("cell", near(mended.told(3)), near(25), near(3));
                both("rest", near(mended.told(3)), near(26));
                both("dear", near(mended.told(0)), near(mended.told(0)));
            }
            if (random.nextInt(3) == 0) {
                both("forget");
            }
        }
    }

    private String limitLexicon() {
        StringBuilder text = new StringBuilder(mended.told(0) == 0 ? "a;" : "");
        int count = random.nextBoolean() ? 55 + random.nextInt(8) : random.nextInt(30);
        int kind = random.nextInt(3);
        for (int i = 0; i < count && text.length() < 380; i++) {
            int one = random.nextInt(80) == 0 ? random.nextInt(i + 1) : i;
            text.append((char) ('a' + one / 26)).append((char) ('a' + one % 26));
            if (kind == 0 && random.nextInt(6) == 0) {
                text.append("-bcdefghij".repeat(2), 0, 8 + random.nextInt(4));
            }
            text.append(random.nextInt(60) == 0 ? " " + (98 + random.nextInt(3)) : "").append(';');
        }
        return text.toString();
    }

    private String limitShapes() {
        StringBuilder text = new StringBuilder();
        int count = 17 + random.nextInt(5);
        for (int i = 0; i < count; i++) {
            int most = random.nextInt(30) == 0 ? 4 : 3;
            text.append("abcd", 0, 1 + random.nextInt(most)).append('=');
            text.append(random.nextInt(80) == 0 ? "abcd" : "bcde", 0, 1 + random.nextInt(most));
            text.append(random.nextInt(3) == 0 ? " " + (random.nextInt(20) == 0 ? 100 * random.nextInt(2) : 99) : "").append(';');
        }
        return text.toString();
    }

    private String limitReading() {
        StringBuilder text = new StringBuilder();
        int count = 37 + random.nextInt(5);
        int cells = random.nextBoolean() ? 1 : 22 + random.nextInt(4);
        for (int i = 0; i < count && text.length() < 360; i++) {
            int some = random.nextInt(4) == 0 ? cells : 1 + random.nextInt(3);
            for (int k = 0; k < some && text.length() < 370; k++) {
                int kind = random.nextInt(12);
                text.append(kind == 0 ? "?" : kind == 1 ? "-" : kind == 2 ? "-\na" : "a");
                if (kind == 3 && cells == 1) {
                    int others = random.nextInt(100) == 0 ? 3 : random.nextInt(3);
                    text.append("[b1 c99 d2 e3", 0, new int[] {3, 7, 10, 13}[others]);
                    text.append(random.nextInt(60) == 0 ? "0" : "").append(']');
                }
            }
            text.append(random.nextBoolean() ? " " : "\n");
        }
        return text.toString();
    }

    private String limitFollows() {
        StringBuilder text = new StringBuilder();
        int count = 57 + random.nextInt(5);
        for (int i = 0; i < count && mended.told(0) > 0; i++) {
            text.append(random.nextInt(300) == 0 ? "q" : "a").append(" a").append(random.nextInt(10)).append(';');
        }
        return text.toString();
    }

    private String many(java.util.function.Supplier<String> one, int most) {
        StringBuilder text = new StringBuilder();
        for (int i = 0; i < 100; i++) {
            String more = one.get();
            if (text.length() + more.length() > most) {
                return text.toString();
            }
            text.append(more);
        }
        return text.toString();
    }

    private String fewLetters(int length) {
        StringBuilder text = new StringBuilder();
        for (int k = 0; k < length; k++) {
            text.append("aabbc".charAt(random.nextInt(5)));
        }
        return text.toString();
    }

    private String longToken() {
        StringBuilder text = new StringBuilder();
        int length = 1 + random.nextInt(24);
        int plain = 2 + random.nextInt(8);
        String word = words.get(random.nextInt(words.size()));
        for (int k = 0; k < length; k++) {
            int kind = random.nextInt(plain);
            text.append(kind == 0 ? "?" : kind == 1 ? "-" : k < word.length() ? word.substring(k, k + 1) : fewLetters(1));
        }
        return text + " ";
    }

    // ---- calls

    private Object call(Object one, String name, int... arguments) {
        for (Method method : one.getClass().getMethods()) {
            if (method.getName().equals(name)) {
                Object[] boxed = new Object[arguments.length];
                for (int i = 0; i < boxed.length; i++) {
                    boxed[i] = arguments[i];
                }
                try {
                    return method.invoke(one, boxed);
                } catch (InvocationTargetException e) {
                    return e.getCause();
                } catch (IllegalAccessException e) {
                    throw new IllegalStateException(e);
                }
            }
        }
        throw new IllegalStateException(name);
    }

    private static String shown(Object answer) {
        return answer instanceof Throwable ? answer.getClass().getName() : answer.toString();
    }

    private void both(String name, int... arguments) {
        Object got = call(mended, name, arguments);
        Object due = call(plain, name, arguments);
        missing += due instanceof NoSuchElementException ? 1 : 0;
        illegal += due instanceof IllegalArgumentException ? 1 : 0;
        String line = name + java.util.Arrays.toString(arguments);
        Check.is((shown(got).equals(shown(due)) ? "" : told) + line, shown(got), shown(due));
    }

    private void tell(String name, String text) {
        told.append(name).append(" \"").append(text.replace("\n", "\\n")).append("\"\n");
        for (int i = 0; i < text.length(); i += 20) {
            int[] numbers = new int[5];
            for (int k = 0; k < 20; k++) {
                numbers[k / 4] = numbers[k / 4] << 8 | (i + k < text.length() ? text.charAt(i + k) : 0);
            }
            both("feed", numbers);
        }
        if (random.nextInt(20) == 0) {
            both(name, random.nextBoolean() ? -1 : 401);
        }
        both(name, Math.min(400, text.length()));
        both("fault");
    }

    private void change() {
        String name = CHANGES[random.nextInt(10) == 0 ? 3 : random.nextInt(3)];
        if (name.equals("forget")) {
            both("forget");
            tell("lexicon", lexiconText());
        } else if (name.equals("set")) {
            both("set", near(7), random.nextInt(4) == 0 ? random.nextInt(120) - 5 : random.nextInt(12));
        } else if (name.equals("weigh")) {
            both("weigh", near(words.size()), random.nextInt(4) == 0 ? random.nextInt(120) - 5 : random.nextInt(9));
        } else {
            both("learn", near(mended.told(3)));
        }
    }

    /** A number from 0 on below a bound, now and then another. */
    private int near(int bound) {
        int kind = random.nextInt(40);
        if (kind == 0) {
            return bound;
        }
        if (kind == 1) {
            return -1;
        }
        if (kind == 2) {
            return random.nextInt();
        }
        return bound <= 0 ? 0 : random.nextInt(bound);
    }

    private void ask(String name) {
        int count = 0;
        for (Method method : PlainModel.class.getMethods()) {
            count = method.getName().equals(name) ? method.getParameterCount() : count;
        }
        int[] arguments = new int[count];
        for (int i = 0; i < count; i++) {
            arguments[i] = near(i == 0 && name.equals("twins") ? 20 : random.nextInt(3) == 0 ? 13 : 4);
        }
        both(name, arguments);
    }

    private void askAll() {
        for (int what = 0; what < 13; what++) {
            both("told", what);
        }
        int tokens = mended.told(3);
        for (int token = 0; token < tokens; token++) {
            for (int what = 0; what < 7; what++) {
                both("token", token, what);
            }
            for (int j = 0; j < mended.told(0) + 1 && j < 12; j++) {
                both("best", token, j, 0);
                both("best", token, j, 1);
                both("best", token, j, 2);
            }
            for (int word = 0; word < mended.told(0); word++) {
                both("price", token, word);
            }
            for (int place = 0; place <= mended.token(token, 0); place++) {
                both("rest", token, place);
            }
            for (int cell = 0; cell < mended.token(token, 0); cell++) {
                both("cell", token, cell, 0);
                both("cell", token, cell, 1);
                both("cell", token, cell, 2);
            }
            for (int what = 0; what < 3; what++) {
                both("mended", token, what);
            }
            both("way", token, 0);
            both("way", token, 1);
            for (int k = 0; k < mended.way(token, 0); k++) {
                for (int what = 0; what < 5; what++) {
                    both("edge", token, k, what);
                }
            }
            both("lost", token, 0);
            both("lost", token, 1);
            both("said", token);
            both("within", token, random.nextInt(60));
        }
        for (int word = 0; word < mended.told(0); word++) {
            both("twin", word, 0);
            both("twin", word, 1);
            for (int what = 0; what < 4; what++) {
                both("word", word, what);
            }
            for (int other = 0; other < mended.told(0); other++) {
                both("apart", word, other);
                both("dear", word, other);
            }
        }
        for (int node = 0; node < mended.told(1); node++) {
            for (int what = 0; what < 6; what++) {
                both("node", node, what);
            }
        }
        for (int shape = 0; shape < mended.told(2); shape++) {
            both("used", shape);
        }
        for (int what = 0; what < 4; what++) {
            both("text", what);
        }
        for (int k = 0; k <= mended.text(0); k++) {
            both("at", k);
        }
        for (int what = 0; what < 3; what++) {
            both("sentence", what);
        }
        both("twins", random.nextInt(30));
    }

    // ---- texts

    private char letter() {
        return "aabbcmnr".charAt(random.nextInt(8));
    }

    private String blanks() {
        return " ".repeat(Math.max(0, random.nextInt(5) - 2));
    }

    private String number(int most) {
        return (random.nextInt(12) == 0 ? "00" : "") + (random.nextInt(10) == 0 ? random.nextInt(103) : 1 + random.nextInt(most));
    }

    private String lexiconText() {
        StringBuilder text = new StringBuilder();
        int count = random.nextInt(6);
        for (int i = 0; i < count; i++) {
            StringBuilder word = new StringBuilder().append(letter());
            int length = random.nextInt(random.nextInt(6) == 0 ? 12 : 5);
            for (int k = 0; k < length; k++) {
                word.append(k < length - 1 && random.nextInt(5) == 0 ? '-' : letter());
            }
            text.append(blanks()).append(word).append(blanks());
            text.append(random.nextBoolean() ? number(6) + blanks() : "").append(';');
            words.add(word.toString());
        }
        return text + blanks();
    }

    private String part() {
        StringBuilder part = new StringBuilder();
        int length = 1 + random.nextInt(random.nextInt(4) == 0 ? 4 : 2);
        for (int k = 0; k < length; k++) {
            part.append(letter());
        }
        return part.toString();
    }

    private String shapesText() {
        StringBuilder text = new StringBuilder();
        shapes.clear();
        int count = random.nextInt(5);
        for (int i = 0; i < count; i++) {
            String[] shape = {part(), part()};
            if (shape[0].equals(shape[1]) && random.nextInt(8) != 0) {
                continue;
            }
            shapes.add(shape);
            text.append(blanks()).append(shape[0]).append('=').append(blanks()).append(shape[1]).append(blanks());
            text.append(random.nextBoolean() ? number(4) + blanks() : "").append(';');
        }
        return text + blanks();
    }

    private String followsText() {
        StringBuilder text = new StringBuilder();
        int count = random.nextInt(8);
        for (int i = 0; i < count && !words.isEmpty(); i++) {
            text.append(blanks()).append(words.get(random.nextInt(words.size()))).append(' ').append(blanks());
            text.append(words.get(random.nextInt(words.size()))).append(blanks()).append(number(9)).append(blanks());
            text.append(';');
        }
        return text + blanks();
    }

    private String readingText() {
        StringBuilder text = new StringBuilder(random.nextInt(5) == 0 ? "\n" : blanks());
        int count = random.nextInt(6);
        for (int i = 0; i < count; i++) {
            text.append(noisy());
            int gap = random.nextInt(5);
            text.append(gap < 2 ? " " : gap < 4 ? "\n" : " \n");
            if (random.nextInt(4) != 0 && gap == 2) {
                text.append(blanks());
            }
        }
        return text.toString();
    }

    /** A WORD as it might have been read, or anything. */
    private String noisy() {
        if (words.isEmpty() || random.nextInt(8) == 0) {
            return part();
        }
        String word = words.get(random.nextInt(words.size()));
        if (!shapes.isEmpty() && random.nextBoolean()) {
            String[] shape = shapes.get(random.nextInt(shapes.size()));
            word = word.replaceFirst(shape[1], shape[0]);
        }
        StringBuilder text = new StringBuilder();
        for (int k = 0; k < word.length(); k++) {
            char sign = word.charAt(k);
            int kind = random.nextInt(16);
            if (kind == 0) {
                text.append('?');
            } else if (kind == 1) {
                text.append("-");
            } else if (kind == 2 && k > 0) {
                text.append("-\n").append(sign == '-' ? "" : String.valueOf(sign));
            } else if (kind == 3 && k > 0) {
                text.append("\n").append(sign);
            } else if (kind < 6 && sign != '-') {
                text.append(letter()).append('[').append(sign).append(number(5));
                for (int i = random.nextInt(3); i > 0; i--) {
                    text.append(' ').append(blanks()).append(letter()).append(number(5));
                }
                text.append(']');
            } else {
                text.append(sign);
            }
        }
        return text.toString();
    }

    /** Now and then a text with something in it that may not stand there. */
    private String spoiled(String text) {
        if (random.nextInt(3) != 0) {
            return text;
        }
        StringBuilder other = new StringBuilder(text);
        for (int i = random.nextInt(3); i >= 0; i--) {
            int place = random.nextInt(other.length() + 1);
            int kind = random.nextInt(4);
            if (kind == 0 && place < other.length()) {
                other.deleteCharAt(place);
            } else if (kind == 1 && other.length() > 0) {
                other.setLength(random.nextInt(other.length()));
            } else {
                other.insert(place, " \n;=-?[]aab019A".charAt(random.nextInt(15)));
            }
        }
        return other.toString();
    }
}
