import java.util.ArrayList;
import java.util.List;
import java.util.Set;
import java.util.TreeSet;

/** Long runs of chosen calls, the same at each start, on the class and on the model of the document. */
public final class RandomRunsTest {
    private static final int RUNS = 500;
    private static final int CALLS = 160;
    // The document leaves free what an object answers behind so many calls.
    private static final int CALLS_OF_AN_OBJECT = 512;
    private static final int MOST_PAST = 380;
    private static final Set<String> CHANGING = Set.of("feed", "load", "query", "format", "marry", "adopt", "release",
            "swap", "improve", "arrange", "plain", "undo", "saveSnapshot", "restoreSnapshot");
    private static final String LETTERS = "abcdexyz";

    private long seed;
    private FamilyChart chart;
    private Model model;
    private String run = "";
    // The calls that may have changed something, and how many calls the object has had in all.
    private final List<Checks.Call> past = new ArrayList<>();
    private int used;
    private static final Set<String> SEEN = new TreeSet<>();

    private int below(int bound) {
        seed = seed * 6364136223846793005L + 1442695040888963407L;
        return (int) ((seed >>> 33) % bound);
    }

    private boolean oneIn(int bound) {
        return below(bound) == 0;
    }

    // Another object takes over when this one has had its calls.
    private void renew() {
        chart = new FamilyChart();
        for (Checks.Call call : past) {
            Checks.outcome(call);
        }
        used = past.size();
    }

    private void same(String call, Checks.Call got, Checks.Call want) {
        if (used >= CALLS_OF_AN_OBJECT) {
            renew();
        }
        used++;
        long due = Checks.outcome(want);
        Checks.due(run, call, Checks.outcome(got), due);
        String name = call.substring(0, call.indexOf('('));
        if (CHANGING.contains(name)) {
            past.add(got);
        }
        if (due == 0) {
            return;
        }
        SEEN.add(due < 0 ? name + " " + due : name + " positive");
    }

    // ---- texts

    private String name(int longest) {
        StringBuilder name = new StringBuilder();
        int length = 1 + below(longest);
        for (int i = 0; i < length; i++) {
            name.append(LETTERS.charAt(below(LETTERS.length())));
        }
        return name.toString();
    }

    private boolean isAncestor(int[] parents, List<int[]> unions, int ancestor, int person) {
        if (person == ancestor) {
            return true;
        }
        if (parents[person] < 0) {
            return false;
        }
        int[] pair = unions.get(parents[person]);
        return isAncestor(parents, unions, ancestor, pair[0]) || isAncestor(parents, unions, ancestor, pair[1]);
    }

    private List<String> familyTokens() {
        List<String> tokens = new ArrayList<>();
        List<String> names = new ArrayList<>();
        int persons = oneIn(12) ? below(18) : 4 + below(13);
        int longest = oneIn(40) ? 9 : oneIn(3) ? 1 + below(8) : 2 + below(3);
        for (int i = 0; i < persons; i++) {
            String name = name(longest);
            for (int tries = 0; tries < 20 && names.contains(name); tries++) {
                name = name(Math.max(2, longest));
            }
            names.add(name);
            tokens.addAll(List.of("person", name, Integer.toString(below(2101)), ";"));
        }
        int[] parents = new int[persons];
        java.util.Arrays.fill(parents, -1);
        List<int[]> unions = new ArrayList<>();
        int wanted = persons < 2 ? 0 : oneIn(15) ? 13 : below(13);
        // Late partners make many rows.
        boolean deep = oneIn(3);
        for (int u = 0; u < wanted; u++) {
            int first = below(persons);
            int second = deep && u > 0 ? Math.min(persons - 1, u + below(2)) : below(persons);
            boolean doubled = first == second;
            for (int[] pair : unions) {
                doubled |= pair[0] == first && pair[1] == second || pair[0] == second && pair[1] == first;
            }
            if (doubled && !oneIn(60)) {
                continue;
            }
            unions.add(new int[] {first, second});
            tokens.addAll(List.of("union", names.get(first), names.get(second), Integer.toString(below(2101))));
            int children = deep ? 1 + below(2) : below(4);
            for (int c = 0; c < children; c++) {
                int child = deep && c == 0 ? Math.min(persons - 1, u + 2) : below(persons);
                boolean refused = parents[child] >= 0 || isAncestor(parents, unions, child, first)
                        || isAncestor(parents, unions, child, second);
                if (!refused) {
                    parents[child] = unions.size() - 1;
                }
                if (!refused || oneIn(60)) {
                    tokens.add(names.get(child));
                }
            }
            tokens.add(";");
        }
        return tokens;
    }

    private String joined(List<String> tokens) {
        StringBuilder text = new StringBuilder();
        int style = below(4);
        for (int i = 0; i < tokens.size(); i++) {
            String token = tokens.get(i);
            char before = text.length() == 0 ? ' ' : text.charAt(text.length() - 1);
            char first = token.charAt(0);
            boolean apart = Character.isLetter(before) && Character.isLetter(first)
                    || Character.isDigit(before) && Character.isDigit(first);
            if (apart || style == 1 && oneIn(3) || style == 2 && oneIn(9)) {
                text.append(oneIn(5) ? '\n' : ' ');
            }
            if (style == 3 && Character.isDigit(first) && oneIn(9)) {
                text.append("00000000000".substring(below(11)));
            }
            text.append(token);
        }
        if (oneIn(6)) {
            text.append(" \n");
        }
        return text.toString();
    }

    private String mutated(List<String> tokens, String[] others) {
        if (!tokens.isEmpty() && oneIn(4)) {
            int at = below(tokens.size());
            switch (below(4)) {
                case 0 -> tokens.remove(at);
                case 1 -> tokens.add(at, tokens.get(below(tokens.size())));
                case 2 -> tokens.set(at, others[below(others.length)]);
                default -> tokens.add(at, others[below(others.length)]);
            }
        }
        String text = joined(tokens);
        if (!text.isEmpty() && oneIn(25)) {
            int at = below(text.length());
            text = text.substring(0, at) + (char) below(256) + text.substring(at + 1);
        }
        return text;
    }

    private static final String[] TEXT_TOKENS = {"person", "union", ";", "2100", "2101", "0", "99999999999", ",", "al",
            "abcdefgh", "abcdefghi", "\u00e4", "many", "A"};
    private static final String[] QUERY_TOKENS = {"many", "first", "not", "(", ")", "and", "or", "<", "=", ">", "year",
            "person", "99999", "100000", "4294967296", "generation", "name", ";", "\u00ff", "0"};
    private static final String[] PROPERTIES = {"person", "year", "generation", "unions", "children", "ancestors",
            "descendants"};

    private void test(List<String> tokens, int depth) {
        int factors = 1 + below(3);
        for (int i = 0; i < factors; i++) {
            if (i > 0) {
                tokens.add(oneIn(2) ? "and" : "or");
            }
            factor(tokens, depth);
        }
    }

    private void factor(List<String> tokens, int depth) {
        if (depth < 8 && oneIn(depth < 3 ? 3 : 2) && tokens.size() < 40) {
            if (oneIn(2)) {
                tokens.add("not");
                factor(tokens, depth + 1);
            } else {
                tokens.add("(");
                test(tokens, depth + 1);
                tokens.add(")");
            }
            return;
        }
        String property = PROPERTIES[below(PROPERTIES.length)];
        tokens.add(property);
        tokens.add(new String[] {"<", "=", ">"}[below(3)]);
        if (oneIn(4)) {
            tokens.add(PROPERTIES[below(PROPERTIES.length)]);
        } else if (property.equals("year")) {
            tokens.add(Integer.toString(below(2101)));
        } else {
            tokens.add(Integer.toString(below(oneIn(9) ? 100000 : 6)));
        }
    }

    private int feedBoth(String text) {
        StringBuilder padded = new StringBuilder(text);
        do {
            padded.append(oneIn(30) ? 'x' : ' ');
        } while (padded.length() % 20 != 0);
        for (int i = 0; i < padded.length(); i += 20) {
            int from = i;
            same("feed()",
                    () -> chart.feed(Checks.word(padded, from), Checks.word(padded, from + 4),
                            Checks.word(padded, from + 8), Checks.word(padded, from + 12),
                            Checks.word(padded, from + 16)),
                    () -> model.feed(Checks.word(padded, from), Checks.word(padded, from + 4),
                            Checks.word(padded, from + 8), Checks.word(padded, from + 12),
                            Checks.word(padded, from + 16)));
        }
        return oneIn(25) ? below(padded.length() + 3) : text.length();
    }

    private void overfeed() {
        for (int i = 0; i < 42; i++) {
            int word = below(Integer.MAX_VALUE);
            same("feed()", () -> chart.feed(word, ~word, 0, -1, word), () -> model.feed(word, ~word, 0, -1, word));
        }
        int length = oneIn(2) ? 800 : 801;
        same("load()", () -> chart.load(length), () -> model.load(length));
        same("errorPosition()", () -> chart.errorPosition(), model::errorPosition);
    }

    private void loadBoth() {
        List<String> tokens = familyTokens();
        String text = mutated(tokens, TEXT_TOKENS);
        int length = feedBoth(text);
        same("load(" + text + ")", () -> chart.load(length), () -> model.load(length));
        same("errorPosition()", () -> chart.errorPosition(), model::errorPosition);
    }

    private void queryBoth() {
        List<String> tokens = new ArrayList<>();
        tokens.add(oneIn(2) ? "many" : "first");
        test(tokens, 0);
        String text = mutated(tokens, QUERY_TOKENS);
        int length = feedBoth(text);
        same("query(" + text + ")", () -> chart.query(length), () -> model.query(length));
        same("errorPosition()", () -> chart.errorPosition(), model::errorPosition);
    }

    // ---- arguments: mostly good ones, at times just beside them or far away

    private int number(int bound) {
        if (oneIn(40)) {
            return new int[] {-1, bound, Integer.MIN_VALUE, Integer.MAX_VALUE, -2}[below(5)];
        }
        return bound <= 0 ? 0 : below(bound);
    }

    private int anyPerson() {
        return number(model.count(0));
    }

    private int anyUnion() {
        return number(model.count(1));
    }

    private int anyRow() {
        return number(model.count(2));
    }

    private int anyPlace(int row) {
        return number(row < 0 || row >= model.count(2) ? 1 : model.boxes(row));
    }

    private int anyStripWidth() {
        return oneIn(15) ? new int[] {9, 201, 0, -10, Integer.MAX_VALUE}[below(5)] : oneIn(3) ? 10 : 10 + below(191);
    }

    private void operation() {
        switch (below(10)) {
            case 0, 1 -> {
                int one = anyPerson();
                int two = anyPerson();
                int year = oneIn(20) ? 2101 : oneIn(20) ? -1 : below(2101);
                same("marry()", () -> chart.marry(one, two, year), () -> model.marry(one, two, year));
            }
            case 2, 3 -> {
                int union = anyUnion();
                int person = anyPerson();
                same("adopt()", () -> chart.adopt(union, person), () -> model.adopt(union, person));
            }
            case 4 -> {
                int person = anyPerson();
                same("release()", () -> chart.release(person), () -> model.release(person));
            }
            case 5, 6, 7 -> {
                int row = anyRow();
                int place = anyPlace(row);
                int other = anyPlace(row);
                same("swap()", () -> chart.swap(row, place, other), () -> model.swap(row, place, other));
            }
            case 8 -> {
                if (oneIn(3)) {
                    same("plain()", () -> {
                        chart.plain();
                        return 0;
                    }, () -> {
                        model.plain();
                        return 0;
                    });
                } else {
                    int rounds = number(6);
                    same("improve()", () -> chart.improve(rounds), () -> model.improve(rounds));
                }
            }
            default -> same("arrange()", () -> chart.arrange(), model::arrange);
        }
    }

    private void history() {
        switch (below(8)) {
            case 0 -> same("undoCount()", () -> chart.undoCount(), model::undoCount);
            case 1 -> {
                same("saveSnapshot()", () -> {
                    chart.saveSnapshot();
                    return 0;
                }, () -> {
                    model.saveSnapshot();
                    return 0;
                });
            }
            case 2 -> same("restoreSnapshot()", () -> chart.restoreSnapshot() ? 1 : 0,
                    () -> model.restoreSnapshot() ? 1 : 0);
            default -> {
                int times = oneIn(12) ? 12 : 1 + below(3);
                for (int i = 0; i < times; i++) {
                    same("undo()", () -> chart.undo(), model::undo);
                }
            }
        }
    }

    private void familyQuestion() {
        int p = anyPerson();
        int q = anyPerson();
        int u = anyUnion();
        int what = number(8) - (oneIn(20) ? 1 : 0);
        int steps = oneIn(10) ? new int[] {0, 16, -1}[below(3)] : 1 + below(oneIn(3) ? 15 : 4);
        same("count()", () -> chart.count(what), () -> model.count(what));
        same("person()", () -> chart.person(p, what), () -> model.person(p, what));
        same("union()", () -> chart.union(u, what), () -> model.union(u, what));
        same("children()", () -> chart.children(u), () -> model.children(u));
        same("ancestors()", () -> chart.ancestors(p), () -> model.ancestors(p));
        same("descendants()", () -> chart.descendants(p), () -> model.descendants(p));
        same("kinship()", () -> chart.kinship(p, q), () -> model.kinship(p, q));
        same("distance()", () -> chart.distance(p, q), () -> model.distance(p, q));
        same("linesTo()", () -> chart.linesTo(p, q), () -> model.linesTo(p, q));
        same("nearestAncestor()", () -> chart.nearestAncestor(p, q), () -> model.nearestAncestor(p, q));
        same("collapse()", () -> chart.collapse(p, steps), () -> model.collapse(p, steps));
        same("repeated()", () -> Float.floatToIntBits(chart.repeated()),
                () -> Float.floatToIntBits(model.repeated()));
        same("inbreeding()", () -> Double.doubleToLongBits(chart.inbreeding()),
                () -> Double.doubleToLongBits(model.inbreeding()));
    }

    private void chartQuestion() {
        int row = anyRow();
        int place = anyPlace(row);
        int other = anyPlace(row);
        int p = anyPerson();
        int what = number(5);
        boolean under = oneIn(2);
        int width = anyStripWidth();
        int line = number(3 * model.count(2));
        int strip = oneIn(20) ? new int[] {-1, Integer.MAX_VALUE, 1 << 28, 7}[below(4)] : below(3);
        switch (below(8)) {
            case 0 -> same("box()", () -> chart.box(row, place, what), () -> model.box(row, place, what));
            case 1 -> same("width()", () -> chart.width(), model::width);
            case 2 -> same("strips()", () -> chart.strips(width), () -> model.strips(width));
            case 3 -> same("cutBoxes()", () -> chart.cutBoxes(width), () -> model.cutBoxes(width));
            case 4, 5 -> {
                same("format()", () -> chart.format(line, strip, width), () -> model.format(line, strip, width));
                sameText();
            }
            default -> {
                same("boxes()", () -> chart.boxes(row), () -> model.boxes(row));
                same("place()", () -> chart.place(p), () -> model.place(p));
                same("crossings()", () -> chart.crossings(), model::crossings);
                same("crossingsOf()", () -> chart.crossingsOf(row, under), () -> model.crossingsOf(row, under));
                same("crossingsIf()", () -> chart.crossingsIf(row, place, other),
                        () -> model.crossingsIf(row, place, other));
            }
        }
    }

    private void sameText() {
        for (int i = -1; i < 201; i++) {
            int index = i;
            same("formattedByte()", () -> chart.formattedByte(index), () -> model.formattedByte(index));
        }
    }

    private void sameAll() {
        for (int row = 0; row < model.count(2); row++) {
            int g = row;
            for (int place = 0; place < model.boxes(row); place++) {
                int i = place;
                for (int what = 0; what < 4; what++) {
                    int w = what;
                    same("box()", () -> chart.box(g, i, w), () -> model.box(g, i, w));
                }
            }
        }
        for (int union = 0; union < model.count(1); union++) {
            int u = union;
            for (int what = 0; what < 7; what++) {
                int w = what;
                same("union()", () -> chart.union(u, w), () -> model.union(u, w));
            }
        }
        for (int line = 0; line < 3 * model.count(2); line++) {
            int l = line;
            same("format()", () -> chart.format(l, 0, 200), () -> model.format(l, 0, 200));
            sameText();
        }
        for (int i = 0; i < 8; i++) {
            int what = i;
            same("count()", () -> chart.count(what), () -> model.count(what));
        }
    }

    private void runFrom(int number) {
        seed = number * 7919L + 12345L;
        run = "run " + number + ":";
        chart = new FamilyChart();
        model = new Model();
        below(2);
        if (!oneIn(10)) {
            loadBoth();
        }
        for (int i = 0; i < CALLS && past.size() < MOST_PAST; i++) {
            int choice = below(100);
            if (choice < 3) {
                loadBoth();
            } else if (choice < 13) {
                queryBoth();
            } else if (choice < 54) {
                operation();
            } else if (choice < 66) {
                history();
            } else if (choice < 78) {
                familyQuestion();
            } else if (choice < 98) {
                chartQuestion();
            } else if (oneIn(6)) {
                overfeed();
            } else {
                sameAll();
            }
        }
        sameAll();
    }

    // Runs that never meet an answer tell nothing about it.
    private static void mustBeSeen() {
        String none = " -1";
        String[] wanted = {"load -11", "load -12", "load -13", "load -14", "load -15", "load positive",
                "load " + Checks.BAD_ARGUMENT, "query " + (FamilyChart.HIDDEN - 1), "query " + (FamilyChart.HIDDEN - 2),
                "query " + (FamilyChart.HIDDEN - 3), "query" + none, "query positive", "query " + Checks.BAD_ARGUMENT,
                "feed" + none, "marry -2", "marry -3", "marry positive", "adopt -2", "adopt -3", "adopt positive",
                "release -2", "release positive", "swap positive", "improve positive", "arrange positive",
                "undo" + none, "undo positive", "distance" + none, "nearestAncestor" + none, "collapse positive",
                "crossingsOf positive", "cutBoxes positive", "restoreSnapshot positive",
                "format " + Checks.NO_ELEMENT, "format " + Checks.BAD_ARGUMENT};
        for (String answer : wanted) {
            Checks.due("seeing " + answer, SEEN.contains(answer) ? 1 : 0, 1);
        }
    }

    public static void main(String[] args) {
        int runs = args.length > 0 ? Integer.parseInt(args[0]) : RUNS;
        for (int number = 0; number < runs; number++) {
            new RandomRunsTest().runFrom(number);
        }
        mustBeSeen();
        Checks.end("RandomRunsTest");
    }
}
