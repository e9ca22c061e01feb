import java.util.ArrayList;
import java.util.Arrays;
import java.util.HashMap;
import java.util.List;
import java.util.Map;
import java.util.NoSuchElementException;
import java.util.regex.Matcher;
import java.util.regex.Pattern;

/**
 * The document once more, by other and slower means: FAULTS by patterns, PRICES by trying all ways, choices by
 * trying them all. It has the face of MendedLetters but for status(), so that both can be asked alike.
 */
public final class PlainModel {
    private static final int NONE = -1;

    record Shape(String first, String second, int cost) {
    }

    record Cell(char read, List<Character> others, List<Integer> costs) {
    }

    record Token(List<Cell> cells, int line, String gap) {
    }

    record Edge(int from, int to, String signs, int cost, int shape) {
    }

    record Found(int word, int price, int opened) {
    }

    private final StringBuilder tape = new StringBuilder();
    private int fault = NONE;
    private final List<String> words = new ArrayList<>();
    private final List<Integer> weights = new ArrayList<>();
    private final List<String> nodes = new ArrayList<>(List.of(""));
    private List<Shape> shapes = new ArrayList<>();
    private List<Token> tokens = new ArrayList<>();
    private int lines = 0;
    private Map<String, Integer> follows = new HashMap<>();
    private final int[] costs = {20, 2, 4, 3, 1, 8, 0};
    private final Map<Object, Object> kept = new HashMap<>();

    // ---- texts

    public int feed(int a, int b, int c, int d, int e) {
        if (tape.length() + 20 > 400) {
            return NONE;
        }
        for (int number : new int[] {a, b, c, d, e}) {
            for (int i = 3; i >= 0; i--) {
                tape.append((char) (number >> 8 * i & 0xFF));
            }
        }
        return tape.length();
    }

    private String take(int n) {
        need(n >= 0 && n <= tape.length());
        String text = tape.substring(0, n);
        tape.setLength(0);
        fault = NONE;
        return text;
    }

    /** The least place, then the least number, of all FAULTS found; what stands behind the first does not matter. */
    private int firstFault(List<int[]> faults) {
        int[] first = null;
        for (int[] one : faults) {
            if (first == null || one[0] < first[0] || one[0] == first[0] && one[1] < first[1]) {
                first = one;
            }
        }
        if (first == null) {
            return 0;
        }
        fault = first[0];
        return first[1];
    }

    /** The longest beginning of a text with which a text of the pattern could begin. */
    private static String viable(String pattern, String text, List<int[]> faults) {
        Pattern p = Pattern.compile(pattern);
        int good = 0;
        int bad = text.length() + 1;
        while (bad - good > 1) {
            int middle = (good + bad) / 2;
            Matcher m = p.matcher(text.substring(0, middle));
            if (m.matches() || m.hitEnd()) {
                good = middle;
            } else {
                bad = middle;
            }
        }
        if (good < text.length() || !p.matcher(text).matches()) {
            faults.add(new int[] {good, 1});
        }
        return text.substring(0, good);
    }

    private static void numbers(String text, int least, List<int[]> faults) {
        Matcher m = Pattern.compile("[0-9]+").matcher(text);
        while (m.find()) {
            String digits = m.group().replaceFirst("^0+", "");
            int value = digits.isEmpty() ? 0 : digits.length() > 2 ? 100 : Integer.parseInt(digits);
            if (value < least || value > 99) {
                faults.add(new int[] {m.start(), 2});
            }
        }
    }

    private static List<String> entries(String text) {
        List<String> list = new ArrayList<>();
        for (String one : text.split(";")) {
            if (!one.isBlank()) {
                list.add(one.trim());
            }
        }
        return list;
    }

    public int lexicon(int n) {
        String text = take(n);
        List<int[]> faults = new ArrayList<>();
        String good = viable("( *[a-z]([a-z-]*[a-z])? *([0-9]+ *)?;)* *", text, faults);
        numbers(good, 0, faults);
        List<String> all = new ArrayList<>(words);
        Matcher m = Pattern.compile("[a-z][a-z-]*").matcher(good);
        while (m.find()) {
            if (all.size() >= 60) {
                faults.add(new int[] {m.start(), 3});
            }
            if (m.group().length() > 12) {
                faults.add(new int[] {m.start() + 12, 3});
            }
            if (all.contains(m.group())) {
                faults.add(new int[] {m.start(), 4});
            }
            all.add(m.group());
        }
        int number = firstFault(faults);
        if (number != 0) {
            return number - 10;
        }
        kept.clear();
        for (String one : entries(text)) {
            Matcher e = Pattern.compile("([a-z-]+) *([0-9]*)").matcher(one);
            e.matches();
            addWord(e.group(1), e.group(2).isEmpty() ? 0 : Integer.parseInt(e.group(2)));
        }
        return words.size();
    }

    private void addWord(String word, int weight) {
        words.add(word);
        weights.add(weight);
        for (int k = 1; k <= word.length(); k++) {
            if (!nodes.contains(word.substring(0, k))) {
                nodes.add(word.substring(0, k));
            }
        }
    }

    public int shapes(int n) {
        String text = take(n);
        List<int[]> faults = new ArrayList<>();
        String good = viable("( *[a-z]+= *[a-z]+ *([0-9]+ *)?;)* *", text, faults);
        numbers(good, 1, faults);
        Matcher m = Pattern.compile("[a-z]+").matcher(good);
        String first = "";
        for (int i = 0; m.find(); i++) {
            if (i >= 40 && i % 2 == 0) {
                faults.add(new int[] {m.start(), 3});
            }
            if (m.group().length() > 3) {
                faults.add(new int[] {m.start() + 3, 3});
            }
            if (i % 2 == 1 && m.group().equals(first)) {
                faults.add(new int[] {m.start(), 1});
            }
            first = m.group();
        }
        int number = firstFault(faults);
        if (number != 0) {
            return number - 10;
        }
        kept.clear();
        shapes = new ArrayList<>();
        for (String one : entries(text)) {
            Matcher e = Pattern.compile("([a-z]+)= *([a-z]+) *([0-9]*)").matcher(one);
            e.matches();
            shapes.add(new Shape(e.group(1), e.group(2), e.group(3).isEmpty() ? 5 : Integer.parseInt(e.group(3))));
        }
        return shapes.size();
    }

    public int reading(int n) {
        String text = take(n);
        List<int[]> faults = new ArrayList<>();
        String cell = "(?:[a-z](?:\\[(?:[a-z][0-9]+(?: +[a-z][0-9]+)*)?\\])?|\\?|-)";
        String good = viable("[ \n]*(" + cell + "+([ \n]+" + cell + "+)*)?[ \n]*", text, faults);
        numbers(good, 1, faults);
        List<Token> read = new ArrayList<>();
        int line = 0;
        int others = 0;
        boolean inside = false;
        boolean open = false;
        Matcher m = Pattern.compile("-\n(?=[a-z?])|\\[|\\]|[0-9]+|[ \n]|[a-z?-]").matcher(good);
        while (m.find()) {
            String one = m.group();
            if (one.equals("[")) {
                inside = true;
                others = 0;
            } else if (one.equals("]")) {
                inside = false;
            } else if (inside && Character.isLetter(one.charAt(0))) {
                others++;
                if (others > 3) {
                    faults.add(new int[] {m.start(), 3});
                }
                lastCell(read).others().add(one.charAt(0));
            } else if (inside && Character.isDigit(one.charAt(0))) {
                lastCell(read).costs().add(one.length() > 8 ? 100 : Integer.parseInt(one));
            } else if (!inside && one.isBlank()) {
                open = false;
                if (!read.isEmpty()) {
                    Token last = read.remove(read.size() - 1);
                    read.add(new Token(last.cells(), last.line(), last.gap() + one));
                }
                line += one.equals("\n") ? 1 : 0;
            } else if (!inside) {
                if (!open) {
                    if (read.size() == 40) {
                        faults.add(new int[] {m.start(), 3});
                    }
                    read.add(new Token(new ArrayList<>(), line, ""));
                    open = true;
                }
                List<Cell> cells = read.get(read.size() - 1).cells();
                if (cells.size() == 24) {
                    faults.add(new int[] {m.start(), 3});
                }
                cells.add(new Cell(one.charAt(one.length() - 1), new ArrayList<>(), new ArrayList<>()));
                line += one.length() - 1;
            }
        }
        int number = firstFault(faults);
        if (number != 0) {
            return number - 10;
        }
        kept.clear();
        tokens = read;
        lines = line + 1;
        return tokens.size();
    }

    private static Cell lastCell(List<Token> read) {
        List<Cell> cells = read.get(read.size() - 1).cells();
        return cells.get(cells.size() - 1);
    }

    public int fault() {
        return fault;
    }

    public int follows(int n) {
        String text = take(n);
        List<int[]> faults = new ArrayList<>();
        String good = viable("( *[a-z][a-z-]* +[a-z][a-z-]* *[0-9]+ *;)* *", text, faults);
        numbers(good, 0, faults);
        Matcher m = Pattern.compile("[a-z][a-z-]*").matcher(good);
        for (int i = 0; m.find(); i++) {
            if (i == 120) {
                faults.add(new int[] {m.start(), 3});
            }
            if (!words.contains(m.group())) {
                faults.add(new int[] {m.start(), 5});
            }
        }
        int number = firstFault(faults);
        if (number != 0) {
            return number - 10;
        }
        kept.clear();
        follows = new HashMap<>();
        int count = 0;
        for (String one : entries(text)) {
            Matcher e = Pattern.compile("([a-z-]+) +([a-z-]+) *([0-9]+)").matcher(one);
            e.matches();
            follows.put(e.group(1) + " " + e.group(2), Integer.parseInt(e.group(3)));
            count++;
        }
        return count;
    }

    public int forget() {
        int before = words.size();
        words.clear();
        weights.clear();
        nodes.clear();
        nodes.add("");
        follows.clear();
        kept.clear();
        return before;
    }

    public int set(int what, int v) {
        need(what >= 0 && what <= 6 && v >= 0 && v <= (what == 0 ? 999 : 99));
        int before = costs[what];
        costs[what] = v;
        kept.clear();
        return before;
    }

    public int weigh(int word, int weight) {
        have(word, words.size());
        need(weight >= 0 && weight <= 99);
        kept.clear();
        return weights.set(word, weight);
    }

    public int learn(int token) {
        have(token, tokens.size());
        int first = mended(token, 0);
        if (first == NONE) {
            return NONE;
        }
        int next = best(token, 1, 0);
        weights.set(first, Math.max(0, weights.get(first) - 1));
        if (next != NONE) {
            weights.set(next, Math.min(99, weights.get(next) + 1));
        }
        kept.clear();
        return first;
    }

    // ---- WORDS, NODES, SHAPES, CELLS

    public int told(int what) {
        need(what >= 0 && what <= 12);
        return new int[] {words.size(), nodes.size(), shapes.size(), tokens.size(), lines, costs[0], costs[1],
            costs[2], costs[3], costs[4], costs[5], tape.length(), costs[6]}[what];
    }

    private int countThrough(String beginning) {
        return (int) words.stream().filter(w -> w.startsWith(beginning)).count();
    }

    private int least(String beginning) {
        int least = NONE;
        for (int i = 0; i < words.size(); i++) {
            if (words.get(i).startsWith(beginning) && (least == NONE || weights.get(i) < least)) {
                least = weights.get(i);
            }
        }
        return least;
    }

    public int word(int word, int what) {
        have(word, words.size());
        need(what >= 0 && what <= 3);
        String one = words.get(word);
        return new int[] {one.length(), weights.get(word), nodes.indexOf(one), countThrough(one) - 1}[what];
    }

    public int sign(int word, int k) {
        have(word, words.size());
        return k < 0 || k >= words.get(word).length() ? NONE : words.get(word).charAt(k);
    }

    public int find(int n) {
        need(n >= 0 && n <= tape.length());
        return words.indexOf(tape.substring(0, n));
    }

    public int node(int node, int what) {
        have(node, nodes.size());
        need(what >= 0 && what <= 5);
        String one = nodes.get(node);
        int length = one.length();
        int children = (int) nodes.stream().filter(s -> s.length() == length + 1 && s.startsWith(one)).count();
        int ahead = length == 0 ? NONE : nodes.indexOf(one.substring(0, length - 1));
        return new int[] {ahead, length == 0 ? 0 : one.charAt(length - 1), words.indexOf(one), least(one), children,
            countThrough(one)}[what];
    }

    public int child(int node, int sign) {
        have(node, nodes.size());
        return sign < 0 || sign > 255 ? NONE : nodes.indexOf(nodes.get(node) + (char) sign);
    }

    public int shape(int shape, int what) {
        have(shape, shapes.size());
        need(what >= 0 && what <= 2);
        Shape one = shapes.get(shape);
        return new int[] {one.cost(), one.first().length(), one.second().length()}[what];
    }

    private static String asRead(List<Cell> cells) {
        StringBuilder text = new StringBuilder();
        cells.forEach(c -> text.append(c.read() == '\n' ? "" : String.valueOf(c.read())));
        return text.toString();
    }

    private int outside(List<Cell> cells) {
        return costs[0] + costs[1] * cells.size();
    }

    public int token(int token, int what) {
        have(token, tokens.size());
        need(what >= 0 && what <= 6);
        Token one = tokens.get(token);
        int breaks = (int) one.cells().stream().filter(c -> c.read() == '\n').count();
        boolean near = one.gap().equals("\n") && token + 1 < tokens.size();
        return new int[] {one.cells().size(), one.line(), breaks, edges(one.cells()).size(), outside(one.cells()),
            near ? 1 : 0, words.contains(asRead(one.cells())) ? 1 : 0}[what];
    }

    public int cell(int token, int cell, int what) {
        have(token, tokens.size());
        have(cell, tokens.get(token).cells().size());
        need(what >= 0 && what <= 2);
        Cell one = tokens.get(token).cells().get(cell);
        int least = one.costs().stream().mapToInt(i -> i).min().orElse(NONE);
        return new int[] {one.read(), one.others().size(), least}[what];
    }

    // ---- the NET

    private List<Edge> edges(List<Cell> cells) {
        List<Edge> net = new ArrayList<>();
        for (int place = 0; place < cells.size(); place++) {
            Cell cell = cells.get(place);
            if (cell.read() == '?') {
                for (char c = 'a'; c <= 'z'; c++) {
                    net.add(new Edge(place, place + 1, "" + c, costs[2], NONE));
                }
            } else if (cell.read() == '-') {
                net.add(new Edge(place, place + 1, "-", 0, NONE));
                net.add(new Edge(place, place + 1, "", costs[3], NONE));
            } else if (cell.read() == '\n') {
                net.add(new Edge(place, place + 1, "", 0, NONE));
                net.add(new Edge(place, place + 1, "-", costs[4], NONE));
            } else {
                net.add(new Edge(place, place + 1, "" + cell.read(), 0, NONE));
                for (int i = 0; i < cell.others().size(); i++) {
                    net.add(new Edge(place, place + 1, "" + cell.others().get(i), cell.costs().get(i), NONE));
                }
            }
            StringBuilder from = new StringBuilder();
            cells.subList(place, cells.size()).forEach(c -> from.append(c.read()));
            for (int s = 0; s < shapes.size(); s++) {
                Shape shape = shapes.get(s);
                if (from.toString().startsWith(shape.first())) {
                    net.add(new Edge(place, place + shape.first().length(), shape.second(), shape.cost(), s));
                }
            }
        }
        return net;
    }

    private static int[] restsOf(List<Edge> net, int length) {
        int[] rests = new int[length + 1];
        for (int p = length - 1; p >= 0; p--) {
            int here = p;
            rests[p] = net.stream().filter(e -> e.from() == here).mapToInt(e -> e.cost() + rests[e.to()]).min()
                    .orElseThrow();
        }
        return rests;
    }

    public int rest(int token, int place) {
        have(token, tokens.size());
        List<Cell> cells = tokens.get(token).cells();
        have(place, cells.size() + 1);
        return restsOf(edges(cells), cells.size())[place];
    }

    /** The least COST to spell what is left; NONE: it can't be. */
    private static int spelling(List<Edge> net, int length, int place, String left, Map<String, Integer> known) {
        if (place == length) {
            return left.isEmpty() ? 0 : NONE;
        }
        String key = place + " " + left;
        if (known.containsKey(key)) {
            return known.get(key);
        }
        int least = NONE;
        for (Edge edge : net) {
            if (edge.from() == place && left.startsWith(edge.signs())) {
                int more = spelling(net, length, edge.to(), left.substring(edge.signs().length()), known);
                if (more != NONE && (least == NONE || edge.cost() + more < least)) {
                    least = edge.cost() + more;
                }
            }
        }
        known.put(key, least);
        return least;
    }

    private int costOf(List<Cell> cells, int word) {
        return spelling(edges(cells), cells.size(), 0, words.get(word), new HashMap<>());
    }

    // ---- best first, as the document tells it, with lists that are looked through

    @SuppressWarnings("unchecked")
    private List<Found> found(List<Cell> cells) {
        return (List<Found>) keep(Arrays.asList("found", cells), () -> search(cells));
    }

    private Object keep(Object key, java.util.function.Supplier<Object> making) {
        if (!kept.containsKey(key)) {
            Object made = making.get();
            kept.put(key, made);
        }
        return kept.get(key);
    }

    private List<Found> search(List<Cell> cells) {
        List<Found> list = new ArrayList<>();
        if (words.isEmpty()) {
            return list;
        }
        List<Edge> net = edges(cells);
        int length = cells.size();
        int[] rests = restsOf(net, length);
        int[] leasts = nodes.stream().mapToInt(this::least).toArray();
        Map<List<Integer>, Integer> waits = new HashMap<>();
        Map<Integer, Integer> answers = new HashMap<>();
        List<List<Integer>> opened = new ArrayList<>();
        waits.put(List.of(0, 0), 0);
        while (!waits.isEmpty() || !answers.isEmpty()) {
            int[] first = null;
            for (Map.Entry<Integer, Integer> answer : answers.entrySet()) {
                first = lesser(first, new int[] {answer.getValue(), 0, answer.getKey(), 0});
            }
            for (Map.Entry<List<Integer>, Integer> state : waits.entrySet()) {
                int place = state.getKey().get(0);
                int node = state.getKey().get(1);
                int bound = state.getValue() + rests[place] + leasts[node];
                first = lesser(first, new int[] {bound, 1, -place, node});
            }
            if (first[1] == 0) {
                answers.remove(first[2]);
                list.add(new Found(first[2], first[0], opened.size()));
                continue;
            }
            int place = -first[2];
            String at = nodes.get(first[3]);
            List<Integer> state = List.of(place, first[3]);
            int cost = waits.remove(state);
            opened.add(state);
            if (place == length && words.contains(at)) {
                answers.put(words.indexOf(at), cost + weights.get(words.indexOf(at)));
            }
            for (Edge edge : net) {
                int node = edge.from() == place ? nodes.indexOf(at + edge.signs()) : NONE;
                List<Integer> next = List.of(edge.to(), node);
                if (node >= 0 && !opened.contains(next)) {
                    waits.merge(next, cost + edge.cost(), Math::min);
                }
            }
        }
        return list;
    }

    private static int[] lesser(int[] one, int[] other) {
        return one == null || Arrays.compare(other, one) < 0 ? other : one;
    }

    public int best(int token, int j, int what) {
        have(token, tokens.size());
        need(what >= 0 && what <= 2);
        List<Found> all = found(tokens.get(token).cells());
        if (j < 0 || j >= all.size()) {
            return NONE;
        }
        return new int[] {all.get(j).word(), all.get(j).price(), all.get(j).opened()}[what];
    }

    public int price(int token, int word) {
        have(token, tokens.size());
        have(word, words.size());
        int cost = costOf(tokens.get(token).cells(), word);
        return cost == NONE ? NONE : cost + weights.get(word);
    }

    public int within(int token, int most) {
        have(token, tokens.size());
        need(most >= 0 && most <= 9999);
        int count = 0;
        for (int word = 0; word < words.size(); word++) {
            int price = price(token, word);
            count += price != NONE && price <= most ? 1 : 0;
        }
        return count;
    }

    public int mended(int token, int what) {
        have(token, tokens.size());
        need(what >= 0 && what <= 2);
        List<Cell> cells = tokens.get(token).cells();
        List<Found> all = found(cells);
        int outside = outside(cells);
        if (all.isEmpty() || all.get(0).price() > outside) {
            return new int[] {NONE, outside, all.isEmpty() ? NONE : all.get(0).price() - outside}[what];
        }
        int next = all.size() > 1 && all.get(1).price() < outside ? all.get(1).price() : outside;
        return new int[] {all.get(0).word(), all.get(0).price(), next - all.get(0).price()}[what];
    }

    // ---- the text MENDED: every way is tried, if there are few TOKENS

    /** So many TOKENS at most, that all ways and all sentences can be tried. */
    private static final int FEW = 8;

    private List<Cell> joined(int token) {
        List<Cell> cells = new ArrayList<>(tokens.get(token).cells());
        cells.addAll(tokens.get(token + 1).cells());
        return cells;
    }

    /** A way is a row of 0 (alone) and 1 (LOST with the next). */
    private String bestWay() {
        return (String) keep("way", () -> {
            String onward = bestWayOnward();
            List<String> ways = new ArrayList<>();
            if (tokens.size() <= FEW) {
                allWays("", 0, ways);
            }
            String first = null;
            for (String way : ways) {
                if (first == null || priceOfWay(way) < priceOfWay(first)) {
                    first = way;
                }
            }
            if (first != null && !first.equals(onward)) {
                throw new IllegalStateException("the model differs from itself");
            }
            return onward;
        });
    }

    /** From the first TOKEN on: of all ways up to a TOKEN only the best one can be part of the best of all. */
    private String bestWayOnward() {
        String[] upTo = new String[tokens.size() + 2];
        upTo[0] = "";
        for (int token = 0; token < tokens.size(); token++) {
            upTo[token + 1] = better(upTo[token + 1], upTo[token] + "0");
            if (mayBeLost(token)) {
                upTo[token + 2] = better(upTo[token + 2], upTo[token] + "1");
            }
        }
        return upTo[tokens.size()];
    }

    private String better(String one, String other) {
        if (one == null || priceOfWay(one) != priceOfWay(other)) {
            return one == null || priceOfWay(other) < priceOfWay(one) ? other : one;
        }
        return one.compareTo(other) < 0 ? one : other;
    }

    private boolean mayBeLost(int token) {
        if (token + 1 >= tokens.size() || token(token, 5) != 1 || joined(token).size() > 24) {
            return false;
        }
        List<Cell> cells = joined(token);
        return !found(cells).isEmpty() && found(cells).get(0).price() <= outside(cells);
    }

    private void allWays(String way, int token, List<String> ways) {
        if (token >= tokens.size()) {
            ways.add(way);
            return;
        }
        allWays(way + "0", token + 1, ways);
        if (mayBeLost(token)) {
            allWays(way + "1", token + 2, ways);
        }
    }

    private int priceOfWay(String way) {
        int token = 0;
        int sum = 0;
        for (char step : way.toCharArray()) {
            sum += step == '0' ? mended(token, 1) : found(joined(token)).get(0).price() + costs[5];
            token += step == '0' ? 1 : 2;
        }
        return sum;
    }

    private String mendedText() {
        return (String) keep("text", () -> {
            StringBuilder text = new StringBuilder();
            int token = 0;
            for (char step : bestWay().toCharArray()) {
                int word = step == '0' ? mended(token, 0) : found(joined(token)).get(0).word();
                text.append(word == NONE ? asRead(tokens.get(token).cells()) : words.get(word));
                token += step == '0' ? 1 : 2;
                if (token < tokens.size()) {
                    text.append(tokens.get(token - 1).gap().contains("\n") ? "\n" : " ");
                }
            }
            return text.toString();
        });
    }

    public int text(int what) {
        need(what >= 0 && what <= 3);
        int outside = 0;
        int lost = 0;
        int token = 0;
        for (char step : bestWay().toCharArray()) {
            outside += step == '0' && mended(token, 0) == NONE ? 1 : 0;
            lost += step == '1' ? 1 : 0;
            token += step == '0' ? 1 : 2;
        }
        return new int[] {mendedText().length(), priceOfWay(bestWay()), lost, outside}[what];
    }

    public int at(int k) {
        return k < 0 || k >= mendedText().length() ? NONE : mendedText().charAt(k);
    }

    public boolean lost(int token, int what) {
        have(token, tokens.size());
        need(what == 0 || what == 1);
        int one = 0;
        for (char step : bestWay().toCharArray()) {
            if (step == '1' && token == one + what) {
                return true;
            }
            one += step == '0' ? 1 : 2;
        }
        return false;
    }

    // ---- EDGES of a TOKEN: every row of them is tried, in order

    private void allRows(List<Edge> net, int length, String left, List<Edge> row, List<List<Edge>> rows) {
        int place = row.isEmpty() ? 0 : row.get(row.size() - 1).to();
        if (place == length) {
            if (left.isEmpty()) {
                rows.add(new ArrayList<>(row));
            }
            return;
        }
        for (Edge edge : net) {
            if (edge.from() == place && left.startsWith(edge.signs())
                    && spelling(net, length, edge.to(), left.substring(edge.signs().length()), new HashMap<>()) >= 0) {
                row.add(edge);
                allRows(net, length, left.substring(edge.signs().length()), row, rows);
                row.remove(row.size() - 1);
            }
        }
    }

    @SuppressWarnings("unchecked")
    private List<Edge> rowOf(int token) {
        return (List<Edge>) keep("row " + token, () -> {
            if (mended(token, 0) == NONE) {
                return List.of();
            }
            List<Cell> cells = tokens.get(token).cells();
            List<List<Edge>> rows = new ArrayList<>();
            allRows(edges(cells), cells.size(), words.get(mended(token, 0)), new ArrayList<>(), rows);
            List<Edge> first = rows.get(0);
            for (List<Edge> row : rows) {
                first = sum(row) < sum(first) ? row : first;
            }
            return first;
        });
    }

    private static int sum(List<Edge> row) {
        return row.stream().mapToInt(Edge::cost).sum();
    }

    public int way(int token, int what) {
        have(token, tokens.size());
        need(what == 0 || what == 1);
        if (mended(token, 0) == NONE) {
            return NONE;
        }
        return what == 0 ? rowOf(token).size() : costOf(tokens.get(token).cells(), mended(token, 0));
    }

    public int edge(int token, int k, int what) {
        have(token, tokens.size());
        have(k, rowOf(token).size());
        need(what >= 0 && what <= 4);
        Edge edge = rowOf(token).get(k);
        return new int[] {edge.from(), edge.to(), edge.cost(), edge.signs().length(), edge.shape()}[what];
    }

    public int used(int shape) {
        have(shape, shapes.size());
        int often = 0;
        for (int token = 0; token < tokens.size(); token++) {
            often += rowOf(token).stream().filter(e -> e.shape() == shape).count();
        }
        return often;
    }

    // ---- THE SENTENCE: every one is tried, in order, if there are few TOKENS

    public int dear(int word, int next) {
        have(word, words.size());
        have(next, words.size());
        return follows.getOrDefault(words.get(word) + " " + words.get(next), costs[6]);
    }

    private int[] bestSentence() {
        return (int[]) keep("sentence", () -> {
            int[] onward = bestSentenceOnward();
            int[][] best = new int[1][];
            int[] least = {Integer.MAX_VALUE};
            if (tokens.size() <= FEW) {
                allSentences(new int[tokens.size()], 0, 0, best, least);
            }
            if (best[0] != null && !Arrays.equals(best[0], onward)) {
                throw new IllegalStateException("the model differs from itself");
            }
            return onward;
        });
    }

    /** A beginning of a sentence: which of its TOKEN's choices each one is, the WORDS, the cost. */
    record Begun(List<Integer> choices, List<Integer> said, int cost) {
        boolean isBetterThan(Begun other) {
            if (other == null || cost != other.cost) {
                return other == null || cost < other.cost;
            }
            for (int i = 0; i < choices.size(); i++) {
                if (!choices.get(i).equals(other.choices.get(i))) {
                    return choices.get(i) < other.choices.get(i);
                }
            }
            return false;
        }
    }

    /** From the first TOKEN on: of all beginnings with the same last choice only the best one is kept. */
    private int[] bestSentenceOnward() {
        List<Begun> kept = List.of(new Begun(List.of(), List.of(), 0));
        for (Token token : tokens) {
            List<Begun> next = new ArrayList<>();
            List<Found> all = found(token.cells());
            for (int choice = 0; choice < 4 && choice < all.size(); choice++) {
                if (all.get(choice).price() <= outside(token.cells())) {
                    next.add(goOn(kept, choice, all.get(choice).word(), all.get(choice).price()));
                }
            }
            next.add(goOn(kept, 4, NONE, outside(token.cells())));
            kept = next;
        }
        Begun best = null;
        for (Begun one : kept) {
            best = one.isBetterThan(best) ? one : best;
        }
        return best.said().stream().mapToInt(i -> i).toArray();
    }

    private Begun goOn(List<Begun> kept, int choice, int word, int price) {
        Begun best = null;
        for (Begun one : kept) {
            int last = one.said().isEmpty() ? NONE : one.said().get(one.said().size() - 1);
            List<Integer> choices = new ArrayList<>(one.choices());
            choices.add(choice);
            List<Integer> said = new ArrayList<>(one.said());
            said.add(word);
            int dear = last == NONE || word == NONE ? 0 : dear(last, word);
            Begun longer = new Begun(choices, said, one.cost() + price + dear);
            best = longer.isBetterThan(best) ? longer : best;
        }
        return best;
    }

    private void allSentences(int[] said, int token, int sum, int[][] best, int[] least) {
        if (token == tokens.size()) {
            if (sum < least[0]) {
                least[0] = sum;
                best[0] = said.clone();
            }
            return;
        }
        List<Cell> cells = tokens.get(token).cells();
        List<Found> all = found(cells);
        for (int j = 0; j < 4 && j < all.size(); j++) {
            if (all.get(j).price() <= outside(cells)) {
                said[token] = all.get(j).word();
                int dear = token > 0 && said[token - 1] != NONE ? dear(said[token - 1], said[token]) : 0;
                allSentences(said, token + 1, sum + all.get(j).price() + dear, best, least);
            }
        }
        said[token] = NONE;
        allSentences(said, token + 1, sum + outside(cells), best, least);
    }

    public int sentence(int what) {
        need(what >= 0 && what <= 2);
        int cost = 0;
        int otherwise = 0;
        int outside = 0;
        int[] said = bestSentence();
        for (int token = 0; token < said.length; token++) {
            cost += said[token] == NONE ? token(token, 4) : price(token, said[token]);
            boolean two = token > 0 && said[token] != NONE && said[token - 1] != NONE;
            cost += two ? dear(said[token - 1], said[token]) : 0;
            otherwise += said[token] == mended(token, 0) ? 0 : 1;
            outside += said[token] == NONE ? 1 : 0;
        }
        return new int[] {cost, otherwise, outside}[what];
    }

    public int said(int token) {
        have(token, tokens.size());
        return bestSentence()[token];
    }

    // ---- WORDS from one another

    public int apart(int word, int other) {
        have(word, words.size());
        have(other, words.size());
        return (Integer) keep("apart " + word + " " + other, () -> {
            List<Cell> cells = new ArrayList<>();
            for (char sign : words.get(word).toCharArray()) {
                cells.add(new Cell(sign, List.of(), List.of()));
            }
            return costOf(cells, other);
        });
    }

    public int twin(int word, int what) {
        have(word, words.size());
        need(what == 0 || what == 1);
        int twin = NONE;
        for (int other = words.size() - 1; other >= 0; other--) {
            if (other != word && apart(word, other) != NONE
                    && (twin == NONE || apart(word, other) <= apart(word, twin))) {
                twin = other;
            }
        }
        return twin == NONE || what == 0 ? twin : apart(word, twin);
    }

    public int twins(int most) {
        need(most >= 0 && most <= 999);
        int pairs = 0;
        for (int word = 0; word < words.size(); word++) {
            for (int other = 0; other < words.size(); other++) {
                pairs += word != other && apart(word, other) >= 0 && apart(word, other) <= most ? 1 : 0;
            }
        }
        return pairs;
    }

    private static void have(int element, int count) {
        if (element < 0 || element >= count) {
            throw new NoSuchElementException();
        }
    }

    private static void need(boolean good) {
        if (!good) {
            throw new IllegalArgumentException();
        }
    }
}
