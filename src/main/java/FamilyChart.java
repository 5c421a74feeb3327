import java.util.NoSuchElementException;

/** Persons and their unions in rows of generations; ../shared/DOC.md says what each call answers. */
public final class FamilyChart {
    public static final int NONE = -1;
    public static final int HIDDEN = -1000000000;

    private static final int MOST_PERSONS = 16;
    private static final int MOST_UNIONS = 12;
    private static final int MOST_BOXES = MOST_PERSONS + MOST_UNIONS;
    private static final int MOST_LETTERS = 8;
    private static final int LAST_YEAR = 2100;
    private static final int LAST_VALUE = 99999;
    private static final int BUFFER_BYTES = 800;
    private static final int FED_BYTES = 20;
    private static final int QUERY_BYTES = 200;
    private static final int MOST_OPEN = 6;
    private static final int LEAST_STRIP = 10;
    private static final int WIDEST_STRIP = 200;
    // Each box pushes a line at most 11 columns further, each mark one: no line reaches this.
    private static final int MOST_COLUMNS = 400;
    private static final int LINES_OF_ROW = 3;
    private static final int UNDO_STEPS = 10;
    private static final int MOST_ROUNDS = 5;
    private static final int MOST_STEPS = 15;
    private static final int KEY_WITHOUT_PARENTS = 1000;
    private static final long KINSHIP_WITH_SELF = 1L << 39;

    private static final int LOAD_FAILED = -10;
    private static final int PAIR_REFUSED = -2;
    private static final int UNIONS_FULL = -3;
    private static final int HAS_PARENTS = -2;
    private static final int OWN_ANCESTOR = -3;
    private static final int NO_PARENTS = -2;

    private static final int ERROR_TOKEN = 1;
    private static final int ERROR_RANGE = 2;
    private static final int ERROR_LIMIT = 3;
    private static final int ERROR_NAME = 4;
    private static final int ERROR_FAMILY = 5;

    private final Input input = new Input();
    private final Family family = new Family();
    private final Relations relations = new Relations(family);
    private final Rows rows = new Rows(family);
    private final Columns columns = new Columns(family, rows);
    private final Printer printer = new Printer(family, rows, columns);
    private final History history = new History(family, rows);
    private final TextReader textReader = new TextReader(input);
    private final QueryReader queryReader = new QueryReader(input, family);

    public FamilyChart() {
    }

    public int feed(int a, int b, int c, int d, int e) {
        if (!input.hasRoom()) {
            return NONE;
        }
        input.append(a);
        input.append(b);
        input.append(c);
        input.append(d);
        input.append(e);
        return input.filled;
    }

    public int load(int length) throws IllegalArgumentException {
        if (length < 0 || length > input.filled) {
            throw new IllegalArgumentException("the buffer has no such length");
        }
        int error = textReader.read(length);
        if (error != 0) {
            return LOAD_FAILED - error;
        }
        family.copyFrom(textReader.draft);
        rows.layPlain();
        history.forgetAll();
        return family.personCount;
    }

    public int errorPosition() {
        return input.errorStart;
    }

    public int count(int what) {
        switch (what) {
            case 0:
                return family.personCount;
            case 1:
                return family.unionCount;
            case 2:
                return family.rowCount;
            case 3:
                return rows.boxCount();
            case 4:
                return rows.boxCount() - family.personCount;
            case 5:
                return family.countWithoutParents();
            case 6:
                return family.countWithoutChildren();
            default:
                return NONE;
        }
    }

    public int person(int person, int what) throws NoSuchElementException {
        requirePerson(person);
        switch (what) {
            case 0:
                return at(family.personYear, person);
            case 1:
                return at(family.generation, person);
            case 2:
                return at(family.parentUnion, person);
            case 3:
                return family.countUnionsOf(person);
            case 4:
                return at(family.letterCount, person);
            default:
                throw new NoSuchElementException("no such property of a person");
        }
    }

    public int union(int union, int what) throws NoSuchElementException {
        requireUnion(union);
        switch (what) {
            case 0:
                return at(family.firstPartner, union);
            case 1:
                return at(family.secondPartner, union);
            case 2:
                return at(family.unionYear, union);
            case 3:
                return at(family.level, union);
            case 4:
                return Integer.bitCount(family.childMask(union));
            case 5:
                return rows.middleOf(union);
            case 6:
                columns.layOut();
                return columns.middleOfUnion(union);
            default:
                throw new NoSuchElementException("no such property of a union");
        }
    }

    public int children(int union) throws NoSuchElementException {
        requireUnion(union);
        return family.childMask(union);
    }

    public int ancestors(int person) throws NoSuchElementException {
        requirePerson(person);
        return at(family.ancestorMask, person);
    }

    public int descendants(int person) throws NoSuchElementException {
        requirePerson(person);
        return family.descendantMask(person);
    }

    public long kinship(int person, int other) throws NoSuchElementException {
        requirePerson(person);
        requirePerson(other);
        relations.noteKinships();
        return relations.kinshipOf(person, other);
    }

    public int distance(int person, int other) throws NoSuchElementException {
        requirePerson(person);
        requirePerson(other);
        return relations.stepsBetween(person, other);
    }

    public int linesTo(int person, int ancestor) throws NoSuchElementException {
        requirePerson(person);
        requirePerson(ancestor);
        return relations.countLines(person, ancestor);
    }

    public int nearestAncestor(int person, int other) throws NoSuchElementException {
        requirePerson(person);
        requirePerson(other);
        return relations.nearestCommon(person, other);
    }

    public int collapse(int person, int steps) throws NoSuchElementException, IllegalArgumentException {
        requirePerson(person);
        if (steps < 1 || steps > MOST_STEPS) {
            throw new IllegalArgumentException("steps are 1 to 15");
        }
        return relations.countMissing(person, steps);
    }

    public int boxes(int row) throws NoSuchElementException {
        requireRow(row);
        return rows.boxCountOf(row);
    }

    public int box(int row, int place, int what) throws NoSuchElementException {
        requirePlace(row, place);
        int box = rows.boxAt(row, place);
        switch (what) {
            case 0:
                return rows.personOf(box);
            case 1:
                return unionOfReference(box);
            case 2:
                columns.layOut();
                return at(columns.firstColumn, box);
            case 3:
                return columns.widthOf(box);
            default:
                throw new NoSuchElementException("no such property of a box");
        }
    }

    public int place(int person) throws NoSuchElementException {
        requirePerson(person);
        return at(rows.placeOf, person);
    }

    public int crossings() {
        return rows.countAllCrossings();
    }

    public int crossingsOf(int row, boolean below) throws NoSuchElementException {
        requireRow(row);
        return below ? rows.countCrossingsBelow(row) : rows.countCrossingsIn(row);
    }

    public int crossingsIf(int row, int place, int other) throws NoSuchElementException {
        requirePlace(row, place);
        requirePlace(row, other);
        rows.exchange(row, place, other);
        int crossings = rows.countAllCrossings();
        rows.exchange(row, place, other);
        return crossings;
    }

    public int width() {
        columns.layOut();
        return printer.widest();
    }

    public int format(int line, int strip, int width) throws NoSuchElementException, IllegalArgumentException {
        if (line < 0 || line >= LINES_OF_ROW * family.rowCount || strip < 0) {
            throw new NoSuchElementException("no such line or strip");
        }
        requireStripWidth(width);
        columns.layOut();
        printer.printLine(line);
        printer.cutText((long) strip * width, width);
        return printer.textLength;
    }

    public int formattedByte(int index) {
        return index < 0 || index >= printer.textLength ? NONE : at(printer.text, index);
    }

    public int strips(int width) throws IllegalArgumentException {
        requireStripWidth(width);
        columns.layOut();
        return (printer.widest() + width - 1) / width;
    }

    public int cutBoxes(int width) throws IllegalArgumentException {
        requireStripWidth(width);
        columns.layOut();
        return columns.countCut(width);
    }

    public float repeated() {
        int all = rows.boxCount();
        if (all <= 0) {
            return 0.0f;
        }
        return (float) (all - family.personCount) / (float) all;
    }

    public double inbreeding() {
        if (family.unionCount <= 0) {
            return 0.0;
        }
        relations.noteKinships();
        return (double) relations.sumOfPartners() / (double) (family.unionCount * KINSHIP_WITH_SELF);
    }

    public int marry(int person, int other, int year) throws NoSuchElementException, IllegalArgumentException {
        requirePerson(person);
        requirePerson(other);
        if (year < 0 || year > LAST_YEAR) {
            throw new IllegalArgumentException("years are 0 to 2100");
        }
        if (person == other || family.unionOfPair(person, other) != NONE) {
            return PAIR_REFUSED;
        }
        if (family.unionCount >= MOST_UNIONS) {
            return UNIONS_FULL;
        }
        history.record();
        int union = family.addUnion(person, other, year);
        renewRows();
        return union;
    }

    public int adopt(int union, int person) throws NoSuchElementException {
        requireUnion(union);
        requirePerson(person);
        if (family.hasParents(person)) {
            return HAS_PARENTS;
        }
        if (family.partnerOrAncestor(union, person)) {
            return OWN_ANCESTOR;
        }
        history.record();
        put(family.parentUnion, person, union);
        renewRows();
        return at(family.generation, person);
    }

    public int release(int person) throws NoSuchElementException {
        requirePerson(person);
        int union = at(family.parentUnion, person);
        if (union == NONE) {
            return NO_PARENTS;
        }
        history.record();
        put(family.parentUnion, person, NONE);
        renewRows();
        return union;
    }

    public int swap(int row, int place, int other) throws NoSuchElementException {
        requirePlace(row, place);
        requirePlace(row, other);
        history.record();
        rows.exchange(row, place, other);
        return rows.countAllCrossings();
    }

    public int improve(int rounds) throws IllegalArgumentException {
        if (rounds < 0 || rounds > MOST_ROUNDS) {
            throw new IllegalArgumentException("rounds are 0 to 5");
        }
        history.record();
        int swaps = 0;
        for (int round = 0; round < rounds; round++) {
            int more = rows.swapWhereBetter();
            if (more == 0) {
                break;
            }
            swaps += more;
        }
        return swaps;
    }

    public int arrange() {
        history.record();
        rows.sortByKeys();
        return rows.countAllCrossings();
    }

    public void plain() {
        history.record();
        rows.layPlain();
    }

    public int undoCount() {
        return history.held;
    }

    public int undo() {
        if (history.held <= 0) {
            return NONE;
        }
        history.takeBack();
        return history.held;
    }

    public void saveSnapshot() {
        history.keepSnapshot();
    }

    public boolean restoreSnapshot() {
        if (!history.snapshotKept) {
            return false;
        }
        history.bringSnapshot();
        return true;
    }

    public int query(int length) throws IllegalArgumentException {
        if (length < 0 || length > QUERY_BYTES || length > input.filled) {
            throw new IllegalArgumentException("the buffer or a query has no such length");
        }
        return queryReader.read(length);
    }

    private void renewRows() {
        family.refresh();
        rows.layPlain();
    }

    private void requirePerson(int person) {
        if (!family.hasPerson(person)) {
            throw new NoSuchElementException("no such person");
        }
    }

    private void requireUnion(int union) {
        if (!family.hasUnion(union)) {
            throw new NoSuchElementException("no such union");
        }
    }

    private void requireRow(int row) {
        if (row < 0 || row >= family.rowCount) {
            throw new NoSuchElementException("no such row");
        }
    }

    private void requirePlace(int row, int place) {
        requireRow(row);
        if (place < 0 || place >= rows.boxCountOf(row)) {
            throw new NoSuchElementException("no such place");
        }
    }

    private static void requireStripWidth(int width) {
        if (width < LEAST_STRIP || width > WIDEST_STRIP) {
            throw new IllegalArgumentException("strips are 10 to 200 wide");
        }
    }

    private static int at(int[] cells, int index) {
        return cells == null || index < 0 || index >= cells.length ? NONE : cells[index];
    }

    private static void put(int[] cells, int index, int value) {
        if (cells != null && index >= 0 && index < cells.length) {
            cells[index] = value;
        }
    }

    private static void fill(int[] cells, int value) {
        for (int i = 0; cells != null && i < cells.length; i++) {
            cells[i] = value;
        }
    }

    private static void copyCells(int[] from, int fromIndex, int[] to, int toIndex, int count) {
        for (int i = 0; i < count; i++) {
            put(to, toIndex + i, at(from, fromIndex + i));
        }
    }

    private static int bit(int person) {
        return person < 0 || person >= MOST_PERSONS ? 0 : 1 << person;
    }

    // A box is a number: that of its person for a main box, MOST_PERSONS + its union for a reference box.
    private static int unionOfReference(int box) {
        return box < MOST_PERSONS ? NONE : box - MOST_PERSONS;
    }

    /** The byte buffer, the token of it that is being read, and the first error. */
    private static final class Input {
        static final int END = 0;
        static final int WORD = 1;
        static final int NUMBER = 2;
        static final int SIGN = 3;
        private static final int BLANK = 4;
        // A number of any length stays an int, and is still out of every range.
        private static final int TOO_GREAT = 1000000;

        private final int[] bytes = new int[BUFFER_BYTES];
        int filled;
        private int length;
        int kind;
        int start;
        private int stop;
        int value;
        int errorCode;
        int errorStart = NONE;

        boolean hasRoom() {
            return filled + FED_BYTES <= BUFFER_BYTES;
        }

        void append(int four) {
            for (int shift = 24; shift >= 0; shift -= 8) {
                put(bytes, filled, (four >>> shift) & 255);
                filled++;
            }
        }

        void open(int textLength) {
            length = textLength;
            filled = 0;
            stop = 0;
            errorCode = 0;
            errorStart = NONE;
            advance();
        }

        // After an error the wrong token stays the current one, so that readers need not look at each step.
        void advance() {
            if (!isFine()) {
                return;
            }
            start = stop;
            while (start < length && kindOf(at(bytes, start)) == BLANK) {
                start++;
            }
            stop = start;
            value = 0;
            kind = start < length ? kindOf(at(bytes, start)) : END;
            if (kind == SIGN) {
                value = at(bytes, start);
                stop++;
            }
            while ((kind == WORD || kind == NUMBER) && stop < length && kindOf(at(bytes, stop)) == kind) {
                value = kind == WORD ? 0 : Math.min(TOO_GREAT, value * 10 + at(bytes, stop) - '0');
                stop++;
            }
        }

        private static int kindOf(int code) {
            if (code == ' ' || code == '\n') {
                return BLANK;
            }
            if (code >= 'a' && code <= 'z') {
                return WORD;
            }
            return code >= '0' && code <= '9' ? NUMBER : SIGN;
        }

        boolean isFine() {
            return errorCode == 0;
        }

        // Only the first error counts.
        void fail(int code) {
            if (errorCode == 0) {
                errorCode = code;
                errorStart = start;
            }
        }

        int wordLength() {
            return kind == WORD ? stop - start : 0;
        }

        int letter(int index) {
            return at(bytes, start + index);
        }

        boolean isWord(String word) {
            if (kind != WORD || word.length() != stop - start) {
                return false;
            }
            for (int i = 0; i < word.length(); i++) {
                if (word.charAt(i) != at(bytes, start + i)) {
                    return false;
                }
            }
            return true;
        }

        boolean isSpelled(int[] letters, int from, int count) {
            if (kind != WORD || count != stop - start) {
                return false;
            }
            for (int i = 0; i < count; i++) {
                if (at(letters, from + i) != at(bytes, start + i)) {
                    return false;
                }
            }
            return true;
        }

        boolean isSign(int sign) {
            return kind == SIGN && value == sign;
        }
    }

    /** Persons and unions, and what follows from them alone: generations, levels, ancestors. */
    private static final class Family {
        // MOST_LETTERS cells for each person.
        final int[] letters = new int[MOST_PERSONS * MOST_LETTERS];
        final int[] letterCount = new int[MOST_PERSONS];
        final int[] personYear = new int[MOST_PERSONS];
        final int[] parentUnion = new int[MOST_PERSONS];
        final int[] firstPartner = new int[MOST_UNIONS];
        final int[] secondPartner = new int[MOST_UNIONS];
        final int[] unionYear = new int[MOST_UNIONS];
        final int[] generation = new int[MOST_PERSONS];
        final int[] ancestorMask = new int[MOST_PERSONS];
        final int[] level = new int[MOST_UNIONS];
        // The partner with a reference box for the union, or NONE.
        final int[] referenced = new int[MOST_UNIONS];
        int personCount;
        int unionCount;
        int rowCount;

        boolean hasPerson(int person) {
            return person >= 0 && person < personCount;
        }

        boolean hasUnion(int union) {
            return union >= 0 && union < unionCount;
        }

        void clear() {
            personCount = 0;
            unionCount = 0;
            refresh();
        }

        int addPerson() {
            int person = personCount;
            put(personYear, person, 0);
            put(letterCount, person, 0);
            put(parentUnion, person, NONE);
            personCount++;
            return person;
        }

        void addLetter(int person, int letter) {
            int count = at(letterCount, person);
            put(letters, person * MOST_LETTERS + count, letter);
            put(letterCount, person, count + 1);
        }

        int addUnion(int first, int second, int year) {
            int union = unionCount;
            put(firstPartner, union, first);
            put(secondPartner, union, second);
            put(unionYear, union, year);
            unionCount++;
            return union;
        }

        void copyFrom(Family other) {
            personCount = other.personCount;
            unionCount = other.unionCount;
            copyCells(other.letters, 0, letters, 0, letters.length);
            copyCells(other.letterCount, 0, letterCount, 0, MOST_PERSONS);
            copyCells(other.personYear, 0, personYear, 0, MOST_PERSONS);
            copyCells(other.parentUnion, 0, parentUnion, 0, MOST_PERSONS);
            copyCells(other.firstPartner, 0, firstPartner, 0, MOST_UNIONS);
            copyCells(other.secondPartner, 0, secondPartner, 0, MOST_UNIONS);
            copyCells(other.unionYear, 0, unionYear, 0, MOST_UNIONS);
            refresh();
        }

        void refresh() {
            fill(generation, 0);
            fill(ancestorMask, 0);
            boolean changed = true;
            for (int pass = 0; changed && pass <= MOST_PERSONS; pass++) {
                changed = false;
                for (int person = 0; person < personCount; person++) {
                    if (passDown(person)) {
                        changed = true;
                    }
                }
            }
            rowCount = 0;
            for (int person = 0; person < personCount; person++) {
                rowCount = Math.max(rowCount, at(generation, person) + 1);
            }
            for (int union = 0; union < unionCount; union++) {
                noteLevel(union);
            }
        }

        private boolean passDown(int person) {
            if (!hasParents(person)) {
                return false;
            }
            int first = firstParent(person);
            int second = secondParent(person);
            int newGeneration = Math.max(at(generation, first), at(generation, second)) + 1;
            int newMask = lineageMask(first) | lineageMask(second);
            if (newGeneration == at(generation, person) && newMask == at(ancestorMask, person)) {
                return false;
            }
            put(generation, person, newGeneration);
            put(ancestorMask, person, newMask);
            return true;
        }

        private void noteLevel(int union) {
            int first = at(firstPartner, union);
            int second = at(secondPartner, union);
            int difference = at(generation, first) - at(generation, second);
            put(level, union, at(generation, difference < 0 ? second : first));
            put(referenced, union, difference == 0 ? NONE : difference < 0 ? first : second);
        }

        int lineageMask(int person) {
            return bit(person) | at(ancestorMask, person);
        }

        boolean hasParents(int person) {
            return at(parentUnion, person) != NONE;
        }

        int firstParent(int person) {
            return at(firstPartner, at(parentUnion, person));
        }

        int secondParent(int person) {
            return at(secondPartner, at(parentUnion, person));
        }

        int otherPartner(int union, int partner) {
            int first = at(firstPartner, union);
            return first == partner ? at(secondPartner, union) : first;
        }

        boolean isPartner(int union, int person) {
            return at(firstPartner, union) == person || at(secondPartner, union) == person;
        }

        int unionOfPair(int one, int two) {
            for (int union = 0; union < unionCount; union++) {
                if (one != two && isPartner(union, one) && isPartner(union, two)) {
                    return union;
                }
            }
            return NONE;
        }

        boolean partnerOrAncestor(int union, int person) {
            int taken = lineageMask(at(firstPartner, union)) | lineageMask(at(secondPartner, union));
            return (taken & bit(person)) != 0;
        }

        int childMask(int union) {
            int mask = 0;
            for (int person = 0; person < personCount; person++) {
                if (at(parentUnion, person) == union) {
                    mask |= bit(person);
                }
            }
            return mask;
        }

        int childMaskOfPerson(int partner) {
            int mask = 0;
            for (int union = 0; union < unionCount; union++) {
                if (isPartner(union, partner)) {
                    mask |= childMask(union);
                }
            }
            return mask;
        }

        int descendantMask(int ancestor) {
            int mask = 0;
            for (int person = 0; person < personCount; person++) {
                if ((at(ancestorMask, person) & bit(ancestor)) != 0) {
                    mask |= bit(person);
                }
            }
            return mask;
        }

        int countUnionsOf(int person) {
            int count = 0;
            for (int union = 0; union < unionCount; union++) {
                if (isPartner(union, person)) {
                    count++;
                }
            }
            return count;
        }

        int countWithoutParents() {
            int count = 0;
            for (int person = 0; person < personCount; person++) {
                if (!hasParents(person)) {
                    count++;
                }
            }
            return count;
        }

        int countWithoutChildren() {
            int count = 0;
            for (int person = 0; person < personCount; person++) {
                if (childMaskOfPerson(person) == 0) {
                    count++;
                }
            }
            return count;
        }
    }

    /** How persons are related. */
    private static final class Relations {
        private final Family family;
        private final long[] kinships = new long[MOST_PERSONS * MOST_PERSONS];
        private final int[] ways = new int[MOST_PERSONS];
        private final int[] nextWays = new int[MOST_PERSONS];

        Relations(Family family) {
            this.family = family;
        }

        long kinshipOf(int one, int two) {
            int index = one * MOST_PERSONS + two;
            return one < 0 || two < 0 || index < 0 || index >= kinships.length ? 0L : kinships[index];
        }

        private void putKinship(int one, int two, long value) {
            int index = one * MOST_PERSONS + two;
            if (one >= 0 && two >= 0 && index >= 0 && index < kinships.length) {
                kinships[index] = value;
            }
        }

        // By generations, since the kinships of a person rest on those of the parents.
        void noteKinships() {
            for (int row = 0; row < family.rowCount; row++) {
                for (int person = 0; person < family.personCount; person++) {
                    if (at(family.generation, person) == row) {
                        noteKinshipsOf(person, row);
                    }
                }
            }
        }

        private void noteKinshipsOf(int person, int row) {
            int first = family.firstParent(person);
            int second = family.secondParent(person);
            for (int other = 0; other < family.personCount; other++) {
                int otherRow = at(family.generation, other);
                if (otherRow < row || otherRow == row && other < person) {
                    long half = (kinshipOf(other, first) + kinshipOf(other, second)) / 2;
                    putKinship(person, other, half);
                    putKinship(other, person, half);
                }
            }
            putKinship(person, person, KINSHIP_WITH_SELF + kinshipOf(first, second) / 2);
        }

        long sumOfPartners() {
            long sum = 0;
            for (int union = 0; union < family.unionCount; union++) {
                sum += kinshipOf(at(family.firstPartner, union), at(family.secondPartner, union));
            }
            return sum;
        }

        int stepsBetween(int person, int other) {
            int reached = bit(person);
            for (int steps = 0; steps < MOST_PERSONS; steps++) {
                if ((reached & bit(other)) != 0) {
                    return steps;
                }
                reached |= neighbours(reached);
            }
            return NONE;
        }

        private int neighbours(int mask) {
            int found = 0;
            for (int child = 0; child < family.personCount; child++) {
                int parents = bit(family.firstParent(child)) | bit(family.secondParent(child));
                if ((mask & bit(child)) != 0) {
                    found |= parents;
                }
                if ((mask & parents) != 0) {
                    found |= bit(child);
                }
            }
            return found;
        }

        // By generations, since the ways of a person are those of the parents together.
        int countLines(int person, int ancestor) {
            fill(ways, 0);
            put(ways, ancestor, 1);
            for (int row = 1; row < family.rowCount; row++) {
                for (int child = 0; child < family.personCount; child++) {
                    if (at(family.generation, child) == row && child != ancestor) {
                        put(ways, child, at(ways, family.firstParent(child)) + at(ways, family.secondParent(child)));
                    }
                }
            }
            return at(ways, person);
        }

        int nearestCommon(int person, int other) {
            int common = family.lineageMask(person) & family.lineageMask(other);
            int nearest = NONE;
            for (int candidate = 0; candidate < family.personCount; candidate++) {
                boolean shared = (common & bit(candidate)) != 0;
                if (shared && (nearest == NONE || at(family.generation, candidate) > at(family.generation, nearest))) {
                    nearest = candidate;
                }
            }
            return nearest;
        }

        int countMissing(int person, int steps) {
            fill(ways, 0);
            put(ways, person, 1);
            for (int step = 0; step < steps; step++) {
                stepToParents();
            }
            int missing = 0;
            for (int ancestor = 0; ancestor < family.personCount; ancestor++) {
                int led = at(ways, ancestor);
                missing += led > 0 ? led - 1 : 0;
            }
            return missing;
        }

        private void stepToParents() {
            fill(nextWays, 0);
            for (int child = 0; child < family.personCount; child++) {
                if (family.hasParents(child)) {
                    addWays(family.firstParent(child), at(ways, child));
                    addWays(family.secondParent(child), at(ways, child));
                }
            }
            copyCells(nextWays, 0, ways, 0, MOST_PERSONS);
        }

        private void addWays(int person, int more) {
            put(nextWays, person, at(nextWays, person) + more);
        }
    }

    /** The order of the boxes in the rows, and the crossings that it brings about. */
    private static final class Rows {
        private final Family family;
        // The boxes of all rows, one row behind the other.
        private final int[] order = new int[MOST_BOXES];
        private final int[] rowStart = new int[MOST_PERSONS + 1];
        final int[] placeOf = new int[MOST_BOXES];
        final int[] firstBox = new int[MOST_UNIONS];
        final int[] secondBox = new int[MOST_UNIONS];
        private final int[] keys = new int[MOST_BOXES];

        Rows(Family family) {
            this.family = family;
        }

        void layPlain() {
            noteBoxesOfUnions();
            int filled = 0;
            for (int row = 0; row < family.rowCount; row++) {
                put(rowStart, row, filled);
                filled = layRow(row, filled);
            }
            put(rowStart, family.rowCount, filled);
            notePlaces();
        }

        private void noteBoxesOfUnions() {
            for (int union = 0; union < family.unionCount; union++) {
                int referenced = at(family.referenced, union);
                int first = at(family.firstPartner, union);
                int second = at(family.secondPartner, union);
                put(firstBox, union, first == referenced ? MOST_PERSONS + union : first);
                put(secondBox, union, second == referenced ? MOST_PERSONS + union : second);
            }
        }

        private int layRow(int row, int start) {
            int filled = start;
            for (int person = 0; person < family.personCount; person++) {
                if (at(family.generation, person) == row) {
                    put(order, filled, person);
                    filled++;
                }
            }
            for (int union = 0; union < family.unionCount; union++) {
                if (at(family.level, union) == row && at(family.referenced, union) != NONE) {
                    put(order, filled, MOST_PERSONS + union);
                    filled++;
                }
            }
            return filled;
        }

        private void notePlaces() {
            for (int row = 0; row < family.rowCount; row++) {
                for (int place = 0; place < boxCountOf(row); place++) {
                    put(placeOf, boxAt(row, place), place);
                }
            }
        }

        void saveOrder(int[] cells, int index) {
            copyCells(order, 0, cells, index, MOST_BOXES);
        }

        // The family that the order was saved with must stand already: it tells where the rows start.
        void bringOrder(int[] cells, int index) {
            layPlain();
            copyCells(cells, index, order, 0, MOST_BOXES);
            notePlaces();
        }

        int boxCount() {
            return at(rowStart, family.rowCount);
        }

        int boxCountOf(int row) {
            return at(rowStart, row + 1) - at(rowStart, row);
        }

        int boxAt(int row, int place) {
            return at(order, at(rowStart, row) + place);
        }

        int personOf(int box) {
            return box < MOST_PERSONS ? box : at(family.referenced, unionOfReference(box));
        }

        int middleOf(int union) {
            return at(placeOf, at(firstBox, union)) + at(placeOf, at(secondBox, union));
        }

        void exchange(int row, int place, int other) {
            int box = boxAt(row, place);
            int otherBox = boxAt(row, other);
            put(order, at(rowStart, row) + place, otherBox);
            put(order, at(rowStart, row) + other, box);
            put(placeOf, otherBox, place);
            put(placeOf, box, other);
        }

        int countAllCrossings() {
            int crossings = 0;
            for (int row = 0; row < family.rowCount; row++) {
                crossings += countCrossingsIn(row) + countCrossingsBelow(row);
            }
            return crossings;
        }

        int countCrossingsIn(int row) {
            int crossings = 0;
            for (int union = 0; union < family.unionCount; union++) {
                if (at(family.level, union) == row) {
                    crossings += countCrossed(union, row);
                }
            }
            return crossings;
        }

        private int countCrossed(int union, int row) {
            int crossings = 0;
            for (int later = union + 1; later < family.unionCount; later++) {
                if (at(family.level, later) == row && cross(union, later)) {
                    crossings++;
                }
            }
            return crossings;
        }

        private boolean cross(int union, int other) {
            int one = at(placeOf, at(firstBox, union));
            int two = at(placeOf, at(secondBox, union));
            int three = at(placeOf, at(firstBox, other));
            int four = at(placeOf, at(secondBox, other));
            if (one == three || one == four || two == three || two == four) {
                return false;
            }
            return liesBetween(three, one, two) != liesBetween(four, one, two);
        }

        private static boolean liesBetween(int place, int one, int two) {
            return place > Math.min(one, two) && place < Math.max(one, two);
        }

        int countCrossingsBelow(int row) {
            if (row < 0 || row + 1 >= family.rowCount) {
                return 0;
            }
            int crossings = 0;
            int count = boxCountOf(row + 1);
            for (int left = 0; left < count; left++) {
                int leftBox = boxAt(row + 1, left);
                for (int right = left + 1; right < count && leftBox < MOST_PERSONS; right++) {
                    int rightBox = boxAt(row + 1, right);
                    if (rightBox < MOST_PERSONS && middleOfParents(leftBox) > middleOfParents(rightBox)) {
                        crossings++;
                    }
                }
            }
            return crossings;
        }

        private int middleOfParents(int person) {
            return middleOf(at(family.parentUnion, person));
        }

        int swapWhereBetter() {
            int swaps = 0;
            for (int row = 0; row < family.rowCount; row++) {
                int fewest = countCrossingsAround(row);
                for (int place = 0; place + 1 < boxCountOf(row); place++) {
                    exchange(row, place, place + 1);
                    int crossings = countCrossingsAround(row);
                    if (crossings < fewest) {
                        fewest = crossings;
                        swaps++;
                    } else {
                        exchange(row, place, place + 1);
                    }
                }
            }
            return swaps;
        }

        // Swapping in a row leaves all other crossings of the chart as they are.
        private int countCrossingsAround(int row) {
            return countCrossingsBelow(row - 1) + countCrossingsIn(row) + countCrossingsBelow(row);
        }

        void sortByKeys() {
            for (int row = 1; row < family.rowCount; row++) {
                for (int place = 0; place < boxCountOf(row); place++) {
                    int box = boxAt(row, place);
                    put(keys, box, keyOf(box, row));
                }
                sortRow(row);
            }
        }

        private int keyOf(int box, int row) {
            int union = unionOfReference(box);
            int person = union == NONE ? box : family.otherPartner(union, personOf(box));
            boolean stands = at(family.generation, person) == row && family.hasParents(person);
            return stands ? middleOfParents(person) : KEY_WITHOUT_PARENTS;
        }

        private void sortRow(int row) {
            for (int place = 1; place < boxCountOf(row); place++) {
                for (int to = place; to > 0 && keyAt(row, to - 1) > keyAt(row, to); to--) {
                    exchange(row, to - 1, to);
                }
            }
        }

        private int keyAt(int row, int place) {
            return at(keys, boxAt(row, place));
        }
    }

    /** The first column of each box, told anew by layOut before it is read. */
    private static final class Columns {
        private final Family family;
        private final Rows rows;
        final int[] firstColumn = new int[MOST_BOXES];
        final int[] middleColumn = new int[MOST_BOXES];

        Columns(Family family, Rows rows) {
            this.family = family;
            this.rows = rows;
        }

        void layOut() {
            for (int row = 0; row < family.rowCount; row++) {
                int free = 0;
                for (int place = 0; place < rows.boxCountOf(row); place++) {
                    int box = rows.boxAt(row, place);
                    int begin = Math.max(free, wantedColumn(box));
                    put(firstColumn, box, begin);
                    put(middleColumn, box, begin + widthOf(box) / 2);
                    free = begin + widthOf(box) + 1;
                }
            }
        }

        private int wantedColumn(int box) {
            if (box >= MOST_PERSONS || !family.hasParents(box)) {
                return 0;
            }
            return middleOfUnion(at(family.parentUnion, box)) - widthOf(box) / 2;
        }

        int widthOf(int box) {
            return at(family.letterCount, rows.personOf(box)) + 2;
        }

        int middleOfUnion(int union) {
            int first = at(middleColumn, at(rows.firstBox, union));
            int second = at(middleColumn, at(rows.secondBox, union));
            return (first + second) / 2;
        }

        int countCut(int width) {
            int cut = 0;
            for (int row = 0; row < family.rowCount; row++) {
                for (int place = 0; place < rows.boxCountOf(row); place++) {
                    if (isCut(rows.boxAt(row, place), width)) {
                        cut++;
                    }
                }
            }
            return cut;
        }

        private boolean isCut(int box, int width) {
            if (width <= 0) {
                return false;
            }
            int first = at(firstColumn, box);
            int last = first + widthOf(box) - 1;
            return first / width != last / width;
        }
    }

    /** The printed lines, one at a time, and the text of the last format. */
    private static final class Printer {
        private final Family family;
        private final Rows rows;
        private final Columns columns;
        private final int[] line = new int[MOST_COLUMNS];
        private int lineLength = MOST_COLUMNS;
        final int[] text = new int[WIDEST_STRIP];
        int textLength;

        Printer(Family family, Rows rows, Columns columns) {
            this.family = family;
            this.rows = rows;
            this.columns = columns;
        }

        void printLine(int number) {
            clearLine();
            int row = number / LINES_OF_ROW;
            switch (number % LINES_OF_ROW) {
                case 0:
                    printBoxes(row);
                    break;
                case 1:
                    printUnionMarks(row);
                    break;
                default:
                    printPersonMarks(row + 1);
                    break;
            }
        }

        // Behind the length of the line that was printed before, all cells are blank already.
        private void clearLine() {
            for (int column = 0; column < lineLength; column++) {
                put(line, column, ' ');
            }
            lineLength = 0;
        }

        private void printByte(int column, int code) {
            put(line, column, code);
            lineLength = Math.max(lineLength, Math.min(column + 1, MOST_COLUMNS));
        }

        private void printBoxes(int row) {
            for (int place = 0; place < rows.boxCountOf(row); place++) {
                printBox(rows.boxAt(row, place));
            }
        }

        private void printBox(int box) {
            boolean main = box < MOST_PERSONS;
            int person = rows.personOf(box);
            int letters = at(family.letterCount, person);
            int column = at(columns.firstColumn, box);
            printByte(column, main ? '[' : '(');
            for (int i = 0; i < letters; i++) {
                printByte(column + 1 + i, at(family.letters, person * MOST_LETTERS + i));
            }
            printByte(column + 1 + letters, main ? ']' : ')');
        }

        private void printUnionMarks(int row) {
            for (int union = 0; union < family.unionCount; union++) {
                if (at(family.level, union) == row) {
                    printByte(freeColumn(columns.middleOfUnion(union)), markOf(union));
                }
            }
        }

        private int freeColumn(int wanted) {
            int column = wanted;
            while (column < MOST_COLUMNS && at(line, column) != ' ') {
                column++;
            }
            return column;
        }

        private void printPersonMarks(int row) {
            for (int person = 0; person < family.personCount; person++) {
                int column = at(columns.middleColumn, person);
                if (at(family.generation, person) == row && family.hasParents(person) && at(line, column) == ' ') {
                    printByte(column, markOf(at(family.parentUnion, person)));
                }
            }
        }

        private static int markOf(int union) {
            return 'a' + union;
        }

        int widest() {
            int widest = 0;
            for (int number = 0; number < LINES_OF_ROW * family.rowCount; number++) {
                printLine(number);
                widest = Math.max(widest, lineLength);
            }
            return widest;
        }

        void cutText(long from, int width) {
            textLength = 0;
            if (from < 0 || from >= lineLength) {
                return;
            }
            int start = (int) from;
            int stop = Math.min(start + width, lineLength);
            for (int column = start; column < stop; column++) {
                put(text, textLength, at(line, column));
                textLength++;
            }
        }
    }

    /** The states that undo and the snapshot bring back. */
    private static final class History {
        private static final int STATE_CELLS = 1 + 3 * MOST_UNIONS + MOST_PERSONS + MOST_BOXES;
        private static final int SNAPSHOT = UNDO_STEPS * STATE_CELLS;

        private final Family family;
        private final Rows rows;
        // A ring of the states before the recent operations, and behind it the snapshot.
        private final int[] cells = new int[SNAPSHOT + STATE_CELLS];
        private int next;
        int held;
        boolean snapshotKept;

        History(Family family, Rows rows) {
            this.family = family;
            this.rows = rows;
        }

        void forgetAll() {
            held = 0;
            snapshotKept = false;
        }

        void record() {
            save(next * STATE_CELLS);
            next = (next + 1) % UNDO_STEPS;
            held = Math.min(held + 1, UNDO_STEPS);
        }

        void takeBack() {
            next = (next + UNDO_STEPS - 1) % UNDO_STEPS;
            held--;
            bring(next * STATE_CELLS);
        }

        void keepSnapshot() {
            save(SNAPSHOT);
            snapshotKept = true;
        }

        void bringSnapshot() {
            bring(SNAPSHOT);
            held = 0;
        }

        private void save(int offset) {
            put(cells, offset, family.unionCount);
            int index = offset + 1;
            copyCells(family.firstPartner, 0, cells, index, MOST_UNIONS);
            index += MOST_UNIONS;
            copyCells(family.secondPartner, 0, cells, index, MOST_UNIONS);
            index += MOST_UNIONS;
            copyCells(family.unionYear, 0, cells, index, MOST_UNIONS);
            index += MOST_UNIONS;
            copyCells(family.parentUnion, 0, cells, index, MOST_PERSONS);
            index += MOST_PERSONS;
            rows.saveOrder(cells, index);
        }

        private void bring(int offset) {
            family.unionCount = at(cells, offset);
            int index = offset + 1;
            copyCells(cells, index, family.firstPartner, 0, MOST_UNIONS);
            index += MOST_UNIONS;
            copyCells(cells, index, family.secondPartner, 0, MOST_UNIONS);
            index += MOST_UNIONS;
            copyCells(cells, index, family.unionYear, 0, MOST_UNIONS);
            index += MOST_UNIONS;
            copyCells(cells, index, family.parentUnion, 0, MOST_PERSONS);
            index += MOST_PERSONS;
            family.refresh();
            rows.bringOrder(cells, index);
        }
    }

    /** Reads a text into a draft, so that an error leaves the chart as it is. */
    private static final class TextReader {
        private final Input input;
        final Family draft = new Family();

        TextReader(Input input) {
            this.input = input;
        }

        int read(int length) {
            draft.clear();
            input.open(length);
            for (int i = 0; i < BUFFER_BYTES && input.isFine() && input.kind != Input.END; i++) {
                if (input.isWord("person")) {
                    readPerson();
                } else if (input.isWord("union")) {
                    readUnion();
                } else {
                    input.fail(ERROR_TOKEN);
                }
                draft.refresh();
            }
            return input.errorCode;
        }

        private void readPerson() {
            if (draft.personCount >= MOST_PERSONS) {
                input.fail(ERROR_LIMIT);
                return;
            }
            input.advance();
            checkNewName();
            if (!input.isFine()) {
                return;
            }
            int person = draft.addPerson();
            for (int i = 0; i < input.wordLength(); i++) {
                draft.addLetter(person, input.letter(i));
            }
            input.advance();
            put(draft.personYear, person, readYear());
            readSemicolon();
        }

        private void checkNewName() {
            if (input.kind != Input.WORD || input.wordLength() > MOST_LETTERS) {
                input.fail(ERROR_TOKEN);
            } else if (personNamed() != NONE) {
                input.fail(ERROR_NAME);
            }
        }

        private void readUnion() {
            if (draft.unionCount >= MOST_UNIONS) {
                input.fail(ERROR_LIMIT);
                return;
            }
            input.advance();
            int first = checkedPerson();
            input.advance();
            int second = checkedPerson();
            checkPair(first, second);
            input.advance();
            int year = readYear();
            if (!input.isFine()) {
                return;
            }
            int union = draft.addUnion(first, second, year);
            for (int i = 0; i < BUFFER_BYTES && input.isFine() && input.kind == Input.WORD; i++) {
                readChild(union);
            }
            readSemicolon();
        }

        private void checkPair(int first, int second) {
            if (first == second || draft.unionOfPair(first, second) != NONE) {
                input.fail(ERROR_FAMILY);
            }
        }

        // The children of a union leave the ancestors of its partners as they were: the next clause refreshes.
        private void readChild(int union) {
            int person = checkedPerson();
            if (!input.isFine()) {
                return;
            }
            if (draft.hasParents(person) || draft.partnerOrAncestor(union, person)) {
                input.fail(ERROR_FAMILY);
                return;
            }
            put(draft.parentUnion, person, union);
            input.advance();
        }

        private int checkedPerson() {
            if (input.kind != Input.WORD) {
                input.fail(ERROR_TOKEN);
                return NONE;
            }
            int person = personNamed();
            if (person == NONE) {
                input.fail(ERROR_NAME);
            }
            return person;
        }

        private int personNamed() {
            for (int person = 0; person < draft.personCount; person++) {
                if (input.isSpelled(draft.letters, person * MOST_LETTERS, at(draft.letterCount, person))) {
                    return person;
                }
            }
            return NONE;
        }

        private int readYear() {
            int year = input.value;
            if (input.kind != Input.NUMBER) {
                input.fail(ERROR_TOKEN);
            } else if (year > LAST_YEAR) {
                input.fail(ERROR_RANGE);
            }
            input.advance();
            return year;
        }

        private void readSemicolon() {
            if (!input.isSign(';')) {
                input.fail(ERROR_TOKEN);
            }
            input.advance();
        }
    }

    /** Reads a query and evaluates it for all persons at once: a test is the mask of those for whom it holds. */
    private static final class QueryReader {
        private static final int PERSON = 0;
        private static final int YEAR = 1;
        private static final int GENERATION = 2;
        private static final int UNIONS = 3;
        private static final int CHILDREN = 4;
        private static final int ANCESTORS = 5;
        private static final int DESCENDANTS = 6;
        private static final int PROPERTIES = 7;

        private final Input input;
        private final Family family;
        private final int[] leftValues = new int[MOST_PERSONS];
        private final int[] rightValues = new int[MOST_PERSONS];
        // MOST_PERSONS cells for each property.
        private final int[] properties = new int[PROPERTIES * MOST_PERSONS];

        QueryReader(Input input, Family family) {
            this.input = input;
            this.family = family;
        }

        int read(int length) {
            noteProperties();
            input.open(length);
            boolean many = input.isWord("many");
            if (!many && !input.isWord("first")) {
                input.fail(ERROR_TOKEN);
            }
            input.advance();
            int holding = readTest(0);
            if (input.kind != Input.END) {
                input.fail(ERROR_TOKEN);
            }
            if (!input.isFine()) {
                return HIDDEN - input.errorCode;
            }
            return many ? Integer.bitCount(holding) : firstOf(holding);
        }

        private static int firstOf(int mask) {
            for (int person = 0; person < MOST_PERSONS; person++) {
                if ((mask & bit(person)) != 0) {
                    return person;
                }
            }
            return NONE;
        }

        private int readTest(int open) {
            int any = 0;
            int all = readFactor(open);
            for (int i = 0; i < QUERY_BYTES && input.isFine(); i++) {
                if (input.isWord("and")) {
                    input.advance();
                    all &= readFactor(open);
                } else if (input.isWord("or")) {
                    input.advance();
                    any |= all;
                    all = readFactor(open);
                } else {
                    break;
                }
            }
            return any | all;
        }

        private int readFactor(int open) {
            boolean negated = input.isWord("not");
            if (!negated && !input.isSign('(')) {
                return readComparison();
            }
            if (open >= MOST_OPEN) {
                input.fail(ERROR_LIMIT);
            }
            if (!input.isFine()) {
                return 0;
            }
            input.advance();
            if (negated) {
                return everybody() & ~readFactor(open + 1);
            }
            int holding = readTest(open + 1);
            if (!input.isSign(')')) {
                input.fail(ERROR_TOKEN);
            }
            input.advance();
            return holding;
        }

        private int everybody() {
            return (1 << family.personCount) - 1;
        }

        private int readComparison() {
            readValue(leftValues);
            int sign = input.value;
            if (!input.isSign('<') && !input.isSign('=') && !input.isSign('>')) {
                input.fail(ERROR_TOKEN);
            }
            input.advance();
            readValue(rightValues);
            if (!input.isFine()) {
                return 0;
            }
            int mask = 0;
            for (int person = 0; person < family.personCount; person++) {
                if (holds(at(leftValues, person), sign, at(rightValues, person))) {
                    mask |= bit(person);
                }
            }
            return mask;
        }

        private static boolean holds(int left, int sign, int right) {
            switch (sign) {
                case '<':
                    return left < right;
                case '>':
                    return left > right;
                default:
                    return left == right;
            }
        }

        private void readValue(int[] values) {
            if (input.kind == Input.NUMBER) {
                fill(values, input.value);
            } else if (input.isWord("person")) {
                takeProperty(PERSON, values);
            } else if (input.isWord("year")) {
                takeProperty(YEAR, values);
            } else if (input.isWord("generation")) {
                takeProperty(GENERATION, values);
            } else if (input.isWord("unions")) {
                takeProperty(UNIONS, values);
            } else if (input.isWord("children")) {
                takeProperty(CHILDREN, values);
            } else if (input.isWord("ancestors")) {
                takeProperty(ANCESTORS, values);
            } else if (input.isWord("descendants")) {
                takeProperty(DESCENDANTS, values);
            } else {
                input.fail(ERROR_TOKEN);
            }
            if (input.kind == Input.NUMBER && input.value > LAST_VALUE) {
                input.fail(ERROR_RANGE);
            }
            input.advance();
        }

        private void takeProperty(int property, int[] values) {
            for (int person = 0; person < family.personCount; person++) {
                put(values, person, at(properties, property * MOST_PERSONS + person));
            }
        }

        private void noteProperties() {
            for (int person = 0; person < family.personCount; person++) {
                noteProperty(PERSON, person, person);
                noteProperty(YEAR, person, at(family.personYear, person));
                noteProperty(GENERATION, person, at(family.generation, person));
                noteProperty(UNIONS, person, family.countUnionsOf(person));
                noteProperty(CHILDREN, person, Integer.bitCount(family.childMaskOfPerson(person)));
                noteProperty(ANCESTORS, person, Integer.bitCount(at(family.ancestorMask, person)));
                noteProperty(DESCENDANTS, person, Integer.bitCount(family.descendantMask(person)));
            }
        }

        private void noteProperty(int property, int person, int value) {
            put(properties, property * MOST_PERSONS + person, value);
        }
    }
}
