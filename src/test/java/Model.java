import java.util.ArrayDeque;
import java.util.ArrayList;
import java.util.Collections;
import java.util.Comparator;
import java.util.HashMap;
import java.util.HashSet;
import java.util.List;
import java.util.Map;
import java.util.NoSuchElementException;
import java.util.Set;

/** The document once more, as literally and slowly as it reads: the random runs compare the class with it. */
final class Model {
    static final int NONE = -1;

    static final class TextError extends RuntimeException {
        private static final long serialVersionUID = 1L;
        final int code;
        final int position;

        TextError(int code, int position) {
            this.code = code;
            this.position = position;
        }
    }

    record Box(int person, int union) {
    }

    record Token(String text, int start) {
        boolean word() {
            return !text.isEmpty() && text.chars().allMatch(c -> c >= 'a' && c <= 'z');
        }

        boolean number() {
            return !text.isEmpty() && text.chars().allMatch(c -> c >= '0' && c <= '9');
        }

        boolean is(String other) {
            return text.equals(other);
        }

        boolean above(long limit) {
            return new java.math.BigInteger(text).compareTo(java.math.BigInteger.valueOf(limit)) > 0;
        }

        int value() {
            return new java.math.BigInteger(text).intValueExact();
        }
    }

    static final class Union {
        final int one;
        final int two;
        final int year;

        Union(int one, int two, int year) {
            this.one = one;
            this.two = two;
            this.year = year;
        }
    }

    static final class State {
        List<Union> unions = new ArrayList<>();
        List<Integer> parents = new ArrayList<>();
        List<List<Box>> rows = new ArrayList<>();

        State copy() {
            State other = new State();
            other.unions = new ArrayList<>(unions);
            other.parents = new ArrayList<>(parents);
            for (List<Box> row : rows) {
                other.rows.add(new ArrayList<>(row));
            }
            return other;
        }
    }

    private final StringBuilder buffer = new StringBuilder();
    private List<String> names = new ArrayList<>();
    private List<Integer> years = new ArrayList<>();
    private State now = new State();
    private final ArrayDeque<State> undo = new ArrayDeque<>();
    private State snapshot;
    private int errorPosition = NONE;
    private String formatted = "";

    // ---- the family

    private int persons() {
        return names.size();
    }

    private void needPerson(int person) {
        if (person < 0 || person >= persons()) {
            throw new NoSuchElementException();
        }
    }

    private void needUnion(int union) {
        if (union < 0 || union >= now.unions.size()) {
            throw new NoSuchElementException();
        }
    }

    private void needRow(int row) {
        if (row < 0 || row >= now.rows.size()) {
            throw new NoSuchElementException();
        }
    }

    private void needPlace(int row, int place) {
        needRow(row);
        if (place < 0 || place >= now.rows.get(row).size()) {
            throw new NoSuchElementException();
        }
    }

    private static void need(boolean good) {
        if (!good) {
            throw new IllegalArgumentException();
        }
    }

    private List<Integer> parentsOf(int person) {
        int union = now.parents.get(person);
        return union == NONE ? List.of() : List.of(now.unions.get(union).one, now.unions.get(union).two);
    }

    private int generation(int person) {
        int greatest = -1;
        for (int parent : parentsOf(person)) {
            greatest = Math.max(greatest, generation(parent));
        }
        return greatest + 1;
    }

    private int level(int union) {
        return Math.max(generation(now.unions.get(union).one), generation(now.unions.get(union).two));
    }

    private Set<Integer> ancestorSet(int person) {
        Set<Integer> found = new HashSet<>();
        for (int parent : parentsOf(person)) {
            found.add(parent);
            found.addAll(ancestorSet(parent));
        }
        return found;
    }

    private Set<Integer> descendantSet(int person) {
        Set<Integer> found = new HashSet<>();
        for (int other = 0; other < persons(); other++) {
            if (ancestorSet(other).contains(person)) {
                found.add(other);
            }
        }
        return found;
    }

    private List<Integer> childList(int union) {
        List<Integer> found = new ArrayList<>();
        for (int person = 0; person < persons(); person++) {
            if (now.parents.get(person) == union) {
                found.add(person);
            }
        }
        return found;
    }

    private List<Integer> unionsOf(int person) {
        List<Integer> found = new ArrayList<>();
        for (int union = 0; union < now.unions.size(); union++) {
            if (now.unions.get(union).one == person || now.unions.get(union).two == person) {
                found.add(union);
            }
        }
        return found;
    }

    private static int mask(Iterable<Integer> persons) {
        int mask = 0;
        for (int person : persons) {
            mask |= 1 << person;
        }
        return mask;
    }

    private int childrenInAll(int person) {
        int count = 0;
        for (int union : unionsOf(person)) {
            count += childList(union).size();
        }
        return count;
    }

    private void layPlain() {
        now.rows = new ArrayList<>();
        int greatest = -1;
        for (int person = 0; person < persons(); person++) {
            greatest = Math.max(greatest, generation(person));
        }
        for (int row = 0; row <= greatest; row++) {
            List<Box> boxes = new ArrayList<>();
            for (int person = 0; person < persons(); person++) {
                if (generation(person) == row) {
                    boxes.add(new Box(person, NONE));
                }
            }
            for (int union = 0; union < now.unions.size(); union++) {
                if (level(union) == row) {
                    for (int partner : List.of(now.unions.get(union).one, now.unions.get(union).two)) {
                        if (generation(partner) < row) {
                            boxes.add(new Box(partner, union));
                        }
                    }
                }
            }
            now.rows.add(boxes);
        }
    }

    // ---- places, crossings, columns

    private Box boxOf(int union, int partner) {
        Box reference = new Box(partner, union);
        return now.rows.get(level(union)).contains(reference) ? reference : new Box(partner, NONE);
    }

    private int placeOf(int union, int partner) {
        return now.rows.get(level(union)).indexOf(boxOf(union, partner));
    }

    private int middle(int union) {
        return placeOf(union, now.unions.get(union).one) + placeOf(union, now.unions.get(union).two);
    }

    private int mainPlace(int person) {
        return now.rows.get(generation(person)).indexOf(new Box(person, NONE));
    }

    private int crossingsIn(int row) {
        int count = 0;
        for (int u = 0; u < now.unions.size(); u++) {
            for (int v = u + 1; v < now.unions.size(); v++) {
                if (level(u) != row || level(v) != row) {
                    continue;
                }
                int a = placeOf(u, now.unions.get(u).one);
                int b = placeOf(u, now.unions.get(u).two);
                int c = placeOf(v, now.unions.get(v).one);
                int d = placeOf(v, now.unions.get(v).two);
                if (new HashSet<>(List.of(a, b, c, d)).size() != 4) {
                    continue;
                }
                int low = Math.min(a, b);
                int high = Math.max(a, b);
                boolean firstIn = low < c && c < high;
                boolean secondIn = low < d && d < high;
                if (firstIn && !secondIn || secondIn && !firstIn) {
                    count++;
                }
            }
        }
        return count;
    }

    private int crossingsBelow(int row) {
        int count = 0;
        for (int p = 0; p < persons(); p++) {
            for (int q = 0; q < persons(); q++) {
                int u = now.parents.get(p);
                int v = now.parents.get(q);
                if (u == NONE || v == NONE || u == v || level(u) != row || level(v) != row) {
                    continue;
                }
                if (middle(u) < middle(v) && mainPlace(p) > mainPlace(q)) {
                    count++;
                }
            }
        }
        return count;
    }

    private int allCrossings() {
        int count = 0;
        for (int row = 0; row < now.rows.size(); row++) {
            count += crossingsIn(row) + crossingsBelow(row);
        }
        return count;
    }

    private int boxWidth(Box box) {
        return printed(box).length();
    }

    private String printed(Box box) {
        String name = names.get(box.person());
        return box.union() == NONE ? "[" + name + "]" : "(" + name + ")";
    }

    private Map<Box, Integer> firstColumns() {
        Map<Box, Integer> columns = new HashMap<>();
        for (List<Box> row : now.rows) {
            int end = -1;
            for (Box box : row) {
                int wanted = 0;
                if (box.union() == NONE && now.parents.get(box.person()) != NONE) {
                    wanted = middleColumn(now.parents.get(box.person()), columns) - boxWidth(box) / 2;
                }
                int begin = Math.max(0, Math.max(wanted, end + 1));
                columns.put(box, begin);
                end = begin + boxWidth(box);
            }
        }
        return columns;
    }

    private int middleColumn(int union, Map<Box, Integer> columns) {
        Box one = boxOf(union, now.unions.get(union).one);
        Box two = boxOf(union, now.unions.get(union).two);
        int c = columns.get(one) + boxWidth(one) / 2;
        int d = columns.get(two) + boxWidth(two) / 2;
        return (c + d) / 2;
    }

    private List<String> lines() {
        Map<Box, Integer> columns = firstColumns();
        List<String> lines = new ArrayList<>();
        for (int row = 0; row < now.rows.size(); row++) {
            StringBuilder boxes = blankLine();
            StringBuilder unions = blankLine();
            StringBuilder persons = blankLine();
            for (Box box : now.rows.get(row)) {
                boxes.replace(columns.get(box), columns.get(box) + boxWidth(box), printed(box));
            }
            for (int union = 0; union < now.unions.size(); union++) {
                if (level(union) == row) {
                    int column = middleColumn(union, columns);
                    while (unions.charAt(column) != ' ') {
                        column++;
                    }
                    unions.setCharAt(column, (char) ('a' + union));
                }
            }
            for (int person = 0; person < persons(); person++) {
                if (generation(person) == row + 1 && now.parents.get(person) != NONE) {
                    Box box = new Box(person, NONE);
                    int column = columns.get(box) + boxWidth(box) / 2;
                    if (persons.charAt(column) == ' ') {
                        persons.setCharAt(column, (char) ('a' + now.parents.get(person)));
                    }
                }
            }
            lines.add(boxes.toString().stripTrailing());
            lines.add(unions.toString().stripTrailing());
            lines.add(persons.toString().stripTrailing());
        }
        return lines;
    }

    private static StringBuilder blankLine() {
        return new StringBuilder(" ".repeat(1000));
    }

    // ---- the tokens

    private static List<Token> tokens(String text) {
        List<Token> found = new ArrayList<>();
        int i = 0;
        while (i < text.length()) {
            char c = text.charAt(i);
            int start = i;
            if (c == ' ' || c == '\n') {
                i++;
                continue;
            }
            if (c >= 'a' && c <= 'z') {
                while (i < text.length() && text.charAt(i) >= 'a' && text.charAt(i) <= 'z') {
                    i++;
                }
            } else if (c >= '0' && c <= '9') {
                while (i < text.length() && text.charAt(i) >= '0' && text.charAt(i) <= '9') {
                    i++;
                }
            } else {
                i++;
            }
            found.add(new Token(text.substring(start, i), start));
        }
        found.add(new Token("", text.length()));
        return found;
    }

    private static void expect(boolean good, int code, Token token) {
        if (!good) {
            throw new TextError(code, token.start());
        }
    }

    // ---- the face

    int feed(int a, int b, int c, int d, int e) {
        if (buffer.length() + 20 > 800) {
            return NONE;
        }
        for (int four : new int[] {a, b, c, d, e}) {
            for (int i = 3; i >= 0; i--) {
                buffer.append((char) (four >> 8 * i & 0xff));
            }
        }
        return buffer.length();
    }

    int load(int length) {
        need(length >= 0 && length <= buffer.length());
        String text = buffer.substring(0, length);
        buffer.setLength(0);
        Model draft = new Model();
        try {
            draft.readText(tokens(text));
        } catch (TextError error) {
            errorPosition = error.position;
            return -10 - error.code;
        }
        errorPosition = NONE;
        names = draft.names;
        years = draft.years;
        now = draft.now;
        layPlain();
        undo.clear();
        snapshot = null;
        return persons();
    }

    private void readText(List<Token> tokens) {
        int i = 0;
        while (!tokens.get(i).is("")) {
            Token keyword = tokens.get(i++);
            if (keyword.is("person")) {
                expect(persons() < 16, 3, keyword);
                Token name = tokens.get(i++);
                expect(name.word() && name.text().length() <= 8, 1, name);
                expect(!names.contains(name.text()), 4, name);
                Token year = tokens.get(i++);
                expect(year.number(), 1, year);
                expect(!year.above(2100), 2, year);
                Token end = tokens.get(i++);
                expect(end.is(";"), 1, end);
                names.add(name.text());
                years.add(year.value());
                now.parents.add(NONE);
            } else {
                expect(keyword.is("union"), 1, keyword);
                expect(now.unions.size() < 12, 3, keyword);
                Token one = tokens.get(i++);
                expect(one.word(), 1, one);
                expect(names.contains(one.text()), 4, one);
                int first = names.indexOf(one.text());
                Token two = tokens.get(i++);
                expect(two.word(), 1, two);
                expect(names.contains(two.text()), 4, two);
                int second = names.indexOf(two.text());
                expect(first != second && !areMarried(first, second), 5, two);
                Token year = tokens.get(i++);
                expect(year.number(), 1, year);
                expect(!year.above(2100), 2, year);
                now.unions.add(new Union(first, second, year.value()));
                int union = now.unions.size() - 1;
                while (tokens.get(i).word()) {
                    Token child = tokens.get(i++);
                    expect(names.contains(child.text()), 4, child);
                    int person = names.indexOf(child.text());
                    expect(now.parents.get(person) == NONE && mayBeChild(union, person), 5, child);
                    now.parents.set(person, union);
                }
                Token end = tokens.get(i++);
                expect(end.is(";"), 1, end);
            }
        }
    }

    private boolean areMarried(int one, int two) {
        for (Union union : now.unions) {
            if (union.one == one && union.two == two || union.one == two && union.two == one) {
                return true;
            }
        }
        return false;
    }

    private boolean mayBeChild(int union, int person) {
        Union pair = now.unions.get(union);
        return person != pair.one && person != pair.two && !ancestorSet(pair.one).contains(person)
                && !ancestorSet(pair.two).contains(person);
    }

    int errorPosition() {
        return errorPosition;
    }

    int count(int what) {
        int boxes = 0;
        int references = 0;
        for (List<Box> row : now.rows) {
            for (Box box : row) {
                boxes++;
                references += box.union() == NONE ? 0 : 1;
            }
        }
        int roots = 0;
        int leaves = 0;
        for (int person = 0; person < persons(); person++) {
            roots += now.parents.get(person) == NONE ? 1 : 0;
            leaves += childrenInAll(person) == 0 ? 1 : 0;
        }
        int[] counts = {persons(), now.unions.size(), now.rows.size(), boxes, references, roots, leaves};
        return what < 0 || what > 6 ? NONE : counts[what];
    }

    int person(int person, int what) {
        needPerson(person);
        if (what < 0 || what > 4) {
            throw new NoSuchElementException();
        }
        return new int[] {years.get(person), generation(person), now.parents.get(person), unionsOf(person).size(),
                names.get(person).length()}[what];
    }

    int union(int union, int what) {
        needUnion(union);
        if (what < 0 || what > 6) {
            throw new NoSuchElementException();
        }
        Union pair = now.unions.get(union);
        return new int[] {pair.one, pair.two, pair.year, level(union), childList(union).size(), middle(union),
                middleColumn(union, firstColumns())}[what];
    }

    int children(int union) {
        needUnion(union);
        return mask(childList(union));
    }

    int ancestors(int person) {
        needPerson(person);
        return mask(ancestorSet(person));
    }

    int descendants(int person) {
        needPerson(person);
        return mask(descendantSet(person));
    }

    long kinship(int person, int other) {
        needPerson(person);
        needPerson(other);
        return kinship(person, other, new HashMap<>());
    }

    private long kinship(int x, int y, Map<Integer, Long> known) {
        Long before = known.get(x * 100 + y);
        if (before != null) {
            return before;
        }
        long parts;
        if (x == y) {
            parts = 1L << 39;
            List<Integer> parents = parentsOf(x);
            if (!parents.isEmpty()) {
                parts += kinship(parents.get(0), parents.get(1), known) / 2;
            }
        } else {
            boolean xIsOther = generation(x) > generation(y) || generation(x) == generation(y) && x > y;
            int one = xIsOther ? y : x;
            int other = xIsOther ? x : y;
            long sum = 0;
            for (int parent : parentsOf(other)) {
                sum += kinship(one, parent, known);
            }
            if (sum % 2 != 0) {
                throw new IllegalStateException("kinships are told to be exact");
            }
            parts = sum / 2;
        }
        known.put(x * 100 + y, parts);
        return parts;
    }

    int distance(int person, int other) {
        needPerson(person);
        needPerson(other);
        ArrayDeque<Integer> waiting = new ArrayDeque<>();
        Map<Integer, Integer> steps = new HashMap<>();
        steps.put(person, 0);
        waiting.add(person);
        while (!waiting.isEmpty()) {
            int here = waiting.remove();
            for (int next = 0; next < persons(); next++) {
                boolean near = parentsOf(here).contains(next) || parentsOf(next).contains(here);
                if (near && !steps.containsKey(next)) {
                    steps.put(next, steps.get(here) + 1);
                    waiting.add(next);
                }
            }
        }
        return steps.getOrDefault(other, NONE);
    }

    int linesTo(int person, int ancestor) {
        needPerson(person);
        needPerson(ancestor);
        if (person == ancestor) {
            return 1;
        }
        int ways = 0;
        for (int parent : parentsOf(person)) {
            ways += linesTo(parent, ancestor);
        }
        return ways;
    }

    int nearestAncestor(int person, int other) {
        needPerson(person);
        needPerson(other);
        Set<Integer> common = ancestorSet(person);
        common.add(person);
        Set<Integer> others = ancestorSet(other);
        others.add(other);
        common.retainAll(others);
        return common.stream().min(Comparator.comparing((Integer p) -> -generation(p)).thenComparing(p -> p))
                .orElse(NONE);
    }

    int collapse(int person, int steps) {
        needPerson(person);
        need(steps >= 1 && steps <= 15);
        List<Integer> reached = new ArrayList<>(List.of(person));
        for (int i = 0; i < steps; i++) {
            List<Integer> next = new ArrayList<>();
            for (int child : reached) {
                next.addAll(parentsOf(child));
            }
            reached = next;
        }
        return reached.size() - new HashSet<>(reached).size();
    }

    int boxes(int row) {
        needRow(row);
        return now.rows.get(row).size();
    }

    int box(int row, int place, int what) {
        needPlace(row, place);
        if (what < 0 || what > 3) {
            throw new NoSuchElementException();
        }
        Box box = now.rows.get(row).get(place);
        return new int[] {box.person(), box.union(), firstColumns().get(box), boxWidth(box)}[what];
    }

    int place(int person) {
        needPerson(person);
        return mainPlace(person);
    }

    int crossings() {
        return allCrossings();
    }

    int crossingsOf(int row, boolean below) {
        needRow(row);
        return below ? crossingsBelow(row) : crossingsIn(row);
    }

    int crossingsIf(int row, int place, int other) {
        needPlace(row, place);
        needPlace(row, other);
        State kept = now;
        now = now.copy();
        Collections.swap(now.rows.get(row), place, other);
        int crossings = allCrossings();
        now = kept;
        return crossings;
    }

    int width() {
        return lines().stream().mapToInt(String::length).max().orElse(0);
    }

    int format(int line, int strip, int width) {
        if (line < 0 || line >= 3 * now.rows.size() || strip < 0) {
            throw new NoSuchElementException();
        }
        need(width >= 10 && width <= 200);
        String whole = lines().get(line);
        long from = (long) strip * width;
        long to = Math.min(whole.length(), from + width);
        formatted = from >= whole.length() ? "" : whole.substring((int) from, (int) to);
        return formatted.length();
    }

    int formattedByte(int index) {
        return index < 0 || index >= formatted.length() ? NONE : formatted.charAt(index);
    }

    int strips(int width) {
        need(width >= 10 && width <= 200);
        int count = 0;
        while (count * width < width()) {
            count++;
        }
        return count;
    }

    int cutBoxes(int width) {
        need(width >= 10 && width <= 200);
        Map<Box, Integer> columns = firstColumns();
        int count = 0;
        for (Box box : columns.keySet()) {
            Set<Integer> strips = new HashSet<>();
            for (int i = 0; i < boxWidth(box); i++) {
                strips.add((columns.get(box) + i) / width);
            }
            count += strips.size() > 1 ? 1 : 0;
        }
        return count;
    }

    float repeated() {
        return count(3) == 0 ? 0 : (float) count(4) / (float) count(3);
    }

    double inbreeding() {
        if (now.unions.isEmpty()) {
            return 0;
        }
        long sum = 0;
        for (Union union : now.unions) {
            sum += kinship(union.one, union.two);
        }
        return (double) sum / (double) (now.unions.size() * (1L << 39));
    }

    private void record(State before) {
        undo.push(before);
        while (undo.size() > 10) {
            undo.removeLast();
        }
    }

    int marry(int person, int other, int year) {
        needPerson(person);
        needPerson(other);
        need(year >= 0 && year <= 2100);
        if (person == other || areMarried(person, other)) {
            return -2;
        }
        if (now.unions.size() == 12) {
            return -3;
        }
        record(now.copy());
        now.unions.add(new Union(person, other, year));
        layPlain();
        return now.unions.size() - 1;
    }

    int adopt(int union, int person) {
        needUnion(union);
        needPerson(person);
        if (now.parents.get(person) != NONE) {
            return -2;
        }
        if (!mayBeChild(union, person)) {
            return -3;
        }
        record(now.copy());
        now.parents.set(person, union);
        layPlain();
        return generation(person);
    }

    int release(int person) {
        needPerson(person);
        int union = now.parents.get(person);
        if (union == NONE) {
            return -2;
        }
        record(now.copy());
        now.parents.set(person, NONE);
        layPlain();
        return union;
    }

    int swap(int row, int place, int other) {
        needPlace(row, place);
        needPlace(row, other);
        record(now.copy());
        Collections.swap(now.rows.get(row), place, other);
        return allCrossings();
    }

    int improve(int rounds) {
        need(rounds >= 0 && rounds <= 5);
        record(now.copy());
        int swaps = 0;
        for (int round = 0; round < rounds; round++) {
            int before = swaps;
            for (int row = 0; row < now.rows.size(); row++) {
                for (int place = 0; place < now.rows.get(row).size() - 1; place++) {
                    if (crossingsIf(row, place, place + 1) < allCrossings()) {
                        Collections.swap(now.rows.get(row), place, place + 1);
                        swaps++;
                    }
                }
            }
            if (swaps == before) {
                break;
            }
        }
        return swaps;
    }

    int arrange() {
        record(now.copy());
        for (int row = 1; row < now.rows.size(); row++) {
            Map<Box, Integer> keys = new HashMap<>();
            for (Box box : now.rows.get(row)) {
                int person = box.person();
                if (box.union() != NONE) {
                    Union pair = now.unions.get(box.union());
                    person = pair.one == box.person() ? pair.two : pair.one;
                }
                boolean here = now.rows.get(row).contains(new Box(person, NONE));
                int parents = now.parents.get(person);
                keys.put(box, here && parents != NONE ? middle(parents) : 1000);
            }
            now.rows.get(row).sort(Comparator.comparing(keys::get));
        }
        return allCrossings();
    }

    void plain() {
        record(now.copy());
        layPlain();
    }

    int undoCount() {
        return undo.size();
    }

    int undo() {
        if (undo.isEmpty()) {
            return NONE;
        }
        now = undo.pop();
        return undo.size();
    }

    void saveSnapshot() {
        snapshot = now.copy();
    }

    boolean restoreSnapshot() {
        if (snapshot == null) {
            return false;
        }
        now = snapshot.copy();
        undo.clear();
        return true;
    }

    // ---- queries: the tree of the test first, then each person

    interface Test {
        boolean holds(int person);
    }

    interface Value {
        int of(int person);
    }

    private List<Token> queryTokens;
    private int queryNext;

    int query(int length) {
        need(length >= 0 && length <= 200 && length <= buffer.length());
        String text = buffer.substring(0, length);
        buffer.setLength(0);
        queryTokens = tokens(text);
        queryNext = 0;
        Test test;
        Token verb = queryTokens.get(queryNext++);
        try {
            expect(verb.is("many") || verb.is("first"), 1, verb);
            test = disjunction(0);
            expect(queryTokens.get(queryNext).is(""), 1, queryTokens.get(queryNext));
        } catch (TextError error) {
            errorPosition = error.position;
            return -1000000000 - error.code;
        }
        errorPosition = NONE;
        List<Integer> found = new ArrayList<>();
        for (int person = 0; person < persons(); person++) {
            if (test.holds(person)) {
                found.add(person);
            }
        }
        return verb.is("many") ? found.size() : found.isEmpty() ? NONE : found.get(0);
    }

    private Test disjunction(int open) {
        Test left = conjunction(open);
        if (queryTokens.get(queryNext).is("or")) {
            queryNext++;
            Test right = disjunction(open);
            return p -> left.holds(p) || right.holds(p);
        }
        return left;
    }

    private Test conjunction(int open) {
        Test left = factor(open);
        if (queryTokens.get(queryNext).is("and")) {
            queryNext++;
            Test right = conjunction(open);
            return p -> left.holds(p) && right.holds(p);
        }
        return left;
    }

    private Test factor(int open) {
        Token token = queryTokens.get(queryNext);
        if (token.is("not")) {
            expect(open < 6, 3, token);
            queryNext++;
            Test inner = factor(open + 1);
            return p -> !inner.holds(p);
        }
        if (token.is("(")) {
            expect(open < 6, 3, token);
            queryNext++;
            Test inner = disjunction(open + 1);
            expect(queryTokens.get(queryNext).is(")"), 1, queryTokens.get(queryNext));
            queryNext++;
            return inner;
        }
        Value left = value();
        Token sign = queryTokens.get(queryNext);
        expect(sign.is("<") || sign.is("=") || sign.is(">"), 1, sign);
        queryNext++;
        Value right = value();
        return p -> sign.is("<") ? left.of(p) < right.of(p)
                : sign.is(">") ? left.of(p) > right.of(p) : left.of(p) == right.of(p);
    }

    private Value value() {
        Token token = queryTokens.get(queryNext);
        if (token.number()) {
            expect(!token.above(99999), 2, token);
            queryNext++;
            int number = token.value();
            return p -> number;
        }
        Value found = switch (token.text()) {
            case "person" -> p -> p;
            case "year" -> p -> years.get(p);
            case "generation" -> p -> generation(p);
            case "unions" -> p -> unionsOf(p).size();
            case "children" -> p -> childrenInAll(p);
            case "ancestors" -> p -> ancestorSet(p).size();
            case "descendants" -> p -> descendantSet(p).size();
            default -> null;
        };
        expect(found != null, 1, token);
        queryNext++;
        return found;
    }
}
