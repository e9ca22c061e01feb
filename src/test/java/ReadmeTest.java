import java.io.IOException;
import java.lang.reflect.InvocationTargetException;
import java.lang.reflect.Method;
import java.nio.file.Files;
import java.nio.file.Path;
import java.util.ArrayList;
import java.util.List;
import java.util.Set;
import java.util.TreeSet;
import java.util.regex.Matcher;
import java.util.regex.Pattern;

/** What README.md shows is true: its example is run line by line as it stands there. */
public final class ReadmeTest {
    private static final Pattern CALL = Pattern.compile("x\\.(\\w+)\\((.*)\\); +// (.*)");
    private static final Pattern PUT = Pattern.compile("put\\(x, \"([^\"]*)\"\\)");
    private static final Pattern ANSWER = Pattern.compile("(-?[0-9]+|true|false|throws \\w+)([: ].*)?");
    private static final Set<String> SEEN = new TreeSet<>();

    public static void main(String[] args) throws IOException {
        List<String> readme = Files.readAllLines(Path.of("README.md"));
        List<List<String>> blocks = blocks(readme);
        Check.is("blocks of Java", blocks.size(), 2);
        helper(blocks.get(0));
        example(blocks.get(1));
        wholeFace(readme);
        textsOfTheTable(readme);
        Check.end("ReadmeTest");
    }

    private static List<List<String>> blocks(List<String> readme) {
        List<List<String>> blocks = new ArrayList<>();
        boolean inside = false;
        for (String line : readme) {
            if (line.equals("```java")) {
                blocks.add(new ArrayList<>());
                inside = true;
            } else if (line.startsWith("```")) {
                inside = false;
            } else if (inside && !line.isBlank()) {
                blocks.get(blocks.size() - 1).add(line);
            }
        }
        return blocks;
    }

    /** The method that the README gives stands below, sign by sign. */
    private static void helper(List<String> block) throws IOException {
        String own = Files.readString(Path.of("src/test/java/ReadmeTest.java"));
        StringBuilder given = new StringBuilder();
        for (String line : block) {
            given.append("    ").append(line).append('\n');
        }
        Check.is("put() is the README's", own.contains("\n" + given), true);
    }

    static int put(MendedLetters x, String text) {
        for (int start = 0; start < text.length(); start += 20) {
            int[] n = new int[5];
            for (int k = 0; k < 20; k++) {
                int sign = start + k < text.length() ? text.charAt(start + k) : 0;
                n[k / 4] = n[k / 4] << 8 | sign;
            }
            x.feed(n[0], n[1], n[2], n[3], n[4]);
        }
        return text.length();
    }

    private static void example(List<String> block) {
        Check.is("its first line", block.get(0), "MendedLetters x = new MendedLetters();");
        MendedLetters x = new MendedLetters();
        for (String line : block.subList(1, block.size())) {
            Matcher call = CALL.matcher(line);
            boolean understood = call.matches();
            Check.is("understood: " + line, understood, true);
            if (understood) {
                Matcher due = ANSWER.matcher(call.group(3));
                Check.is("has an answer: " + line, due.matches(), true);
                Check.is(line, answer(x, call.group(1), call.group(2)), due.group(1));
            }
        }
        for (String kind : new String[] {"-9", "-1", "throws NoSuchElementException",
            "throws IllegalArgumentException"}) {
            Check.is("the example shows " + kind, SEEN.contains(kind), true);
        }
        Check.is("the text MENDED that it shows", String.join("\n", block).contains(
            "\"the dog burn\\nwell-known dog xy burn\""), true);
        x = new MendedLetters();
        x.lexicon(put(x, "the; dog 1; bum 3; burn 2; well-known 4;"));
        x.shapes(put(x, "cl=d 3; rn=m 2;"));
        x.reading(put(x, "tb[h2]e clog burn\nwell-\nknown d?g xy bu\nrn"));
        Check.is("the text MENDED", Check.textOf(x), "the dog burn\nwell-known dog xy burn");
    }

    private static String answer(MendedLetters x, String name, String inside) {
        List<Object> arguments = new ArrayList<>();
        Matcher put = PUT.matcher(inside);
        if (put.matches()) {
            arguments.add(put(x, put.group(1).replace("\\n", "\n")));
        } else if (!inside.isEmpty()) {
            for (String one : inside.split(", ")) {
                arguments.add(Integer.parseInt(one));
            }
        }
        String answered = called(x, name, arguments.toArray());
        SEEN.add(answered);
        return answered;
    }

    private static String called(MendedLetters x, String name, Object[] arguments) {
        for (Method method : MendedLetters.class.getMethods()) {
            if (method.getName().equals(name) && method.getParameterCount() == arguments.length) {
                try {
                    return String.valueOf(method.invoke(x, arguments));
                } catch (InvocationTargetException e) {
                    return "throws " + e.getCause().getClass().getSimpleName();
                } catch (IllegalAccessException e) {
                    return "no access";
                }
            }
        }
        return "no such call";
    }

    /** Every call stands in the README with its arguments' names, and none that there is not. */
    private static void wholeFace(List<String> readme) throws IOException {
        Set<String> face = new TreeSet<>();
        Matcher declared = Pattern.compile("    public (?:int|boolean) (\\w+)\\(([^)]*)\\)").matcher(
            Files.readString(Path.of("src/main/java/MendedLetters.java")));
        while (declared.find()) {
            face.add(declared.group(1) + "(" + declared.group(2).replace("int ", "") + ")");
        }
        Check.is("calls of the face", face.size(), 37);
        Set<String> shown = new TreeSet<>();
        for (String line : readme) {
            Matcher call = Pattern.compile("`(\\w+\\([a-z, ]*\\))`").matcher(line);
            while (call.find()) {
                shown.add(call.group(1));
            }
        }
        Check.is("calls in the README", shown.toString(), face.toString());
    }

    /** The texts of the table can be told as they stand, one behind the other. */
    private static void textsOfTheTable(List<String> readme) {
        Pattern row = Pattern.compile(" *\\| `(lexicon|shapes|reading|follows)\\(n\\)` \\| `([^`]*)` .*");
        MendedLetters x = new MendedLetters();
        int told = 0;
        for (String line : readme) {
            Matcher one = row.matcher(line);
            if (one.matches()) {
                told++;
                Check.is("told: " + line, Check.tell(x, one.group(1), one.group(2)) > 0, true);
            }
        }
        Check.is("texts in the table", told, 4);
    }
}
