import java.io.IOException;
import java.lang.reflect.Field;
import java.lang.reflect.Method;
import java.lang.reflect.Modifier;
import java.nio.file.Files;
import java.nio.file.Path;
import java.util.ArrayList;
import java.util.List;
import java.util.Set;
import java.util.TreeSet;

/** The public face is the document's, and the program's text keeps to what LANGUAGE.md says of its form. */
public final class FaceTest {
    private static final String MISSING = "NoSuchElementException";
    private static final String ILLEGAL = "IllegalArgumentException";
    /** Name, number of arguments, what it throws. */
    private static final String[] FACE = {"feed 5", "lexicon 1 I", "shapes 1 I", "reading 1 I", "fault 0",
        "follows 1 I", "forget 0", "set 2 I", "weigh 2 NI", "learn 1 N", "told 1 I", "word 2 NI", "sign 2 N",
        "find 1 I", "node 2 NI", "child 2 N", "shape 2 NI", "token 2 NI", "cell 3 NI", "rest 2 N", "best 3 NI",
        "price 2 N", "within 2 NI", "mended 2 NI", "text 1 I", "at 1", "lost 2 NI", "way 2 NI", "edge 3 NI",
        "used 1 N", "dear 2 N", "sentence 1 I", "said 1 N", "apart 2 N", "twin 2 NI", "twins 1 I", "status 1"};

    public static void main(String[] args) throws IOException {
        face();
        wild();
        text();
        Check.end("FaceTest");
    }

    private static void face() {
        Set<String> due = new TreeSet<>();
        for (String one : FACE) {
            String[] parts = one.split(" ");
            String raises = parts.length < 3 ? "" : parts[2].replace("N", MISSING + " ").replace("I", ILLEGAL + " ");
            due.add((parts[0].equals("lost") ? "boolean " : "int ") + parts[0] + " " + parts[1] + " " + raises);
        }
        Set<String> got = new TreeSet<>();
        for (Method method : MendedLetters.class.getDeclaredMethods()) {
            if (!Modifier.isPrivate(method.getModifiers())) {
                StringBuilder raises = new StringBuilder();
                for (Class<?> one : method.getExceptionTypes()) {
                    raises.append(one.getSimpleName()).append(' ');
                }
                got.add(method.getReturnType() + " " + method.getName() + " " + method.getParameterCount() + " " + raises);
                Check.is(method.getName() + " is public, no more", method.getModifiers(), Modifier.PUBLIC);
            }
        }
        Check.is("the face", got.toString(), due.toString());
        for (Field field : MendedLetters.class.getDeclaredFields()) {
            boolean hidden = Modifier.isPrivate(field.getModifiers());
            Check.is("the field " + field.getName() + " is private", hidden, !field.getName().equals("NONE"));
        }
        Check.is("one constructor", MendedLetters.class.getConstructors().length, 1);
        Check.is("the class", MendedLetters.class.getModifiers(), Modifier.PUBLIC | Modifier.FINAL);
        Set<String> names = new TreeSet<>();
        for (Class<?> inside : MendedLetters.class.getDeclaredClasses()) {
            for (Method method : inside.getDeclaredMethods()) {
                names.add(method.getName());
            }
        }
        for (String one : FACE) {
            Check.is("inside is a method " + one, names.contains(one.split(" ")[0]), false);
        }
    }

    /** In every state any arguments: what is thrown is what the face says. */
    private static void wild() {
        int[] values = {Integer.MIN_VALUE, -721, -1, 0, 1, 2, 3, 6, 11, 12, 23, 24, 25, 39, 40, 59, 60, 97, 399, 400,
            720, 721, 999, 1000, 9999, 10000, Integer.MAX_VALUE};
        for (int state = 0; state < 5; state++) {
            int calls = 0;
            MendedLetters x = inState(state);
            for (Method method : MendedLetters.class.getDeclaredMethods()) {
                if (!Modifier.isPublic(method.getModifiers()) || method.getName().equals("forget")) {
                    continue;
                }
                for (int i = 0; i < 60; i++) {
                    Object[] arguments = new Object[method.getParameterCount()];
                    for (int k = 0; k < arguments.length; k++) {
                        arguments[k] = values[(i * (k + 3) + k * 7 + calls) % values.length];
                    }
                    calls++;
                    if (calls % 500 == 0) {
                        x = inState(state);
                    }
                    wildCall(x, method, arguments);
                }
            }
        }
    }

    private static void wildCall(MendedLetters x, Method method, Object[] arguments) {
        String thrown = "";
        try {
            method.invoke(x, arguments);
        } catch (java.lang.reflect.InvocationTargetException e) {
            thrown = e.getCause().getClass().getSimpleName();
        } catch (IllegalAccessException e) {
            thrown = "no access";
        }
        boolean fine = thrown.isEmpty();
        for (Class<?> one : method.getExceptionTypes()) {
            fine = fine || thrown.equals(one.getSimpleName());
        }
        Check.is(method.getName() + java.util.Arrays.toString(arguments) + " throws " + thrown, fine, true);
    }

    private static MendedLetters inState(int state) {
        MendedLetters x = new MendedLetters();
        if (state == 0) {
            return x;
        }
        if (state < 4) {
            fill(x);
        }
        if (state == 2) {
            x.forget();
        } else if (state == 3) {
            Check.reading(x, "????????????\n????????????\n------------\n------------ " + "a\n".repeat(36));
            Check.feed(x, "a".repeat(400));
        } else if (state == 4) {
            Check.reading(x, "a");
        }
        return x;
    }

    /** As much of each kind as there may be: 60 WORDS of 12 signs that share few NODES. */
    private static void fill(MendedLetters x) {
        StringBuilder text = new StringBuilder();
        for (int i = 0; i < 60; i++) {
            StringBuilder word = new StringBuilder();
            word.append((char) ('a' + i % 26));
            word.append((char) ('a' + i / 26));
            while (word.length() < 12) {
                word.append((char) ('a' + (i + word.length() * word.length()) % 26));
            }
            text.append(word).append(i).append(';');
            if (i % 20 == 19) {
                Check.lexicon(x, text.toString());
                text.setLength(0);
            }
        }
        Check.is("60 WORDS", x.told(0), 60);
        StringBuilder parts = new StringBuilder();
        for (int i = 0; i < 20; i++) {
            parts.append((char) ('a' + i)).append('=').append((char) ('b' + i)).append((char) ('c' + i)).append(';');
        }
        Check.is("20 SHAPES", Check.shapes(x, parts.toString()), 20);
        Check.is("40 TOKENS", Check.reading(x, "?-c[a1 b2 d3]\n".repeat(20) + "ab?\n".repeat(20)), 40);
        StringBuilder follows = new StringBuilder();
        String first = wordText(x, 0);
        for (int i = 0; i < 12; i++) {
            follows.append(first).append(' ').append(wordText(x, i)).append(i).append(';');
        }
        Check.is("FOLLOWS", Check.follows(x, follows.toString()), 12);
    }

    private static String wordText(MendedLetters x, int word) {
        StringBuilder text = new StringBuilder();
        for (int k = 0; k < x.word(word, 0); k++) {
            text.append((char) x.sign(word, k));
        }
        return text.toString();
    }

    /** Rules of LANGUAGE.md that can be seen line by line. */
    private static void text() throws IOException {
        List<String> lines = Files.readAllLines(Path.of("src/main/java/MendedLetters.java"));
        String[] never = {"->", "::", "catch", "try ", "finally", "synchronized", "assert", "instanceof", "Exact(",
            "System.", "Random", "Thread", "float", "double", "protected", " var ", "@", "hashCode", "equals("};
        List<String> imports = new ArrayList<>();
        int classes = 0;
        int begun = 0;
        String method = "";
        for (int i = 0; i < lines.size(); i++) {
            String line = lines.get(i);
            boolean comment = line.trim().startsWith("/") || line.trim().startsWith("*");
            if (line.startsWith("import ")) {
                imports.add(line);
            }
            for (String one : never) {
                Check.is("line " + (i + 1) + " has " + one, !comment && line.contains(one), false);
            }
            classes += !comment && line.contains(" class ") ? 1 : 0;
            if (line.contains("static ") && line.contains(" = ") && !comment) {
                Check.is("line " + (i + 1) + " is final", line.contains("static final "), true);
            }
            if (line.matches("    (    )?[a-z].*\\) (throws .*)?\\{")) {
                begun = i;
                method = line.trim();
                Check.is(method + " takes seven at most", method.split(",").length <= 7 + 1, true);
            }
            if (line.matches("    (    )?\\}") && !method.isEmpty()) {
                Check.is(method + " is short", i - begun < 60, true);
                method = "";
            }
        }
        Check.is("imports", imports.toString(), "[import java.util.NoSuchElementException;]");
        Check.is("classes", classes <= 12, true);
    }
}
