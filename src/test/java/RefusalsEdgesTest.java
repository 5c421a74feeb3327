/** Who is told no: each sentence that names an exception has a test of its own, and nothing changes by such a call. */
public final class RefusalsEdgesTest {
    private static final int MIN = Checks.MIN;
    private static final int MAX = Checks.MAX;
    private static final long NO_ELEMENT = Checks.NO_ELEMENT;
    private static final long BAD_ARGUMENT = Checks.BAD_ARGUMENT;
    private static final Scene RICH = Scene.rich();
    private static final Scene FULL = Scene.full();
    private static final Scene EMPTY = Scene.empty();
    private static final String NO_PERSON = "Throws `NoSuchElementException` if there is no such person";
    private static final String NO_ROW = "Throws `NoSuchElementException` if there is no such row";
    private static final String NO_PLACE = "Throws `NoSuchElementException` if there is no such row or place";
    private static final String NO_WIDTH = "Throws `IllegalArgumentException` if width is not 10 to 200";

    private interface OfOne {
        long of(FamilyChart chart, int number);
    }

    private static void refuse(Scene scene, OfOne ask, long want, int... numbers) {
        for (int number : numbers) {
            Checks.refused("the call with " + number, scene, c -> ask.of(c, number), want);
        }
    }

    private static void stands(Scene scene, OfOne ask, int... numbers) {
        for (int number : numbers) {
            long answer = Checks.outcome(() -> ask.of(scene.chart(), number));
            boolean thrown = answer == NO_ELEMENT || answer == BAD_ARGUMENT || answer == Checks.OTHER_EXCEPTION;
            Checks.due("an exception for " + number, thrown ? 1 : 0, 0);
        }
    }

    // Persons are 0 to 5 of RICH, 0 to 15 of FULL, and nobody of EMPTY.
    private static void noPerson(OfOne... asks) {
        for (OfOne ask : asks) {
            stands(RICH, ask, 0, 5);
            stands(FULL, ask, 0, 15);
            refuse(RICH, ask, NO_ELEMENT, -1, 6, 15, 16, 31, 32, 256, MIN, MIN + 1, MAX);
            refuse(FULL, ask, NO_ELEMENT, -1, 16, 28, MIN, MAX);
            refuse(EMPTY, ask, NO_ELEMENT, 0, 1, -1, MIN, MAX);
        }
    }

    // Unions are 0 to 2 of RICH, 0 to 11 of FULL, and none of EMPTY.
    private static void noUnion(OfOne... asks) {
        for (OfOne ask : asks) {
            stands(RICH, ask, 0, 2);
            stands(FULL, ask, 0, 11);
            refuse(RICH, ask, NO_ELEMENT, -1, 3, 11, 12, MIN, MIN + 1, MAX);
            refuse(FULL, ask, NO_ELEMENT, -1, 12, 16, MIN, MAX);
            refuse(EMPTY, ask, NO_ELEMENT, 0, 1, -1, MIN, MAX);
        }
    }

    // Rows are 0 to 2 of RICH, 0 alone of FULL, and none of EMPTY.
    private static void noRow(OfOne... asks) {
        for (OfOne ask : asks) {
            stands(RICH, ask, 0, 1, 2);
            stands(FULL, ask, 0);
            refuse(RICH, ask, NO_ELEMENT, -1, 3, 12, 16, 17, MIN, MIN + 1, MAX);
            refuse(FULL, ask, NO_ELEMENT, -1, 1, 16, MIN, MAX);
            refuse(EMPTY, ask, NO_ELEMENT, 0, 1, -1, MIN, MAX);
        }
    }

    // Places are 0 and 1 in the last row of RICH.
    private static void noPlaceOfRich(OfOne... asks) {
        for (OfOne ask : asks) {
            stands(RICH, ask, 0, 1);
            refuse(RICH, ask, NO_ELEMENT, -1, 2, 3, 27, 28, MIN, MIN + 1, MAX);
        }
    }

    // Places are 0 to 15 in the row of FULL.
    private static void noPlaceOfFull(OfOne... asks) {
        for (OfOne ask : asks) {
            stands(FULL, ask, 0, 15);
            refuse(FULL, ask, NO_ELEMENT, -1, 16, 27, 28, MIN, MAX);
        }
    }

    private static void noWidth(OfOne ask) {
        for (Scene scene : new Scene[] {RICH, FULL}) {
            stands(scene, ask, 10, 11, 199, 200);
            refuse(scene, ask, BAD_ARGUMENT, 9, 201, 0, 1, -1, -10, -200, MIN, MAX);
        }
    }

    private static void noWhat(OfOne ask, Scene scene, int last) {
        stands(scene, ask, 0, last);
        refuse(scene, ask, NO_ELEMENT, -1, last + 1, last + 2, MIN, MIN + 1, MAX);
    }

    private static void person() {
        noPerson((c, number) -> c.person(number, 0), (c, number) -> c.person(number, 4));
        noWhat((c, what) -> c.person(0, what), RICH, 4);
        noWhat((c, what) -> c.person(15, what), FULL, 4);
    }

    private static void union() {
        noUnion((c, number) -> c.union(number, 0), (c, number) -> c.union(number, 6));
        noWhat((c, what) -> c.union(2, what), RICH, 6);
        noWhat((c, what) -> c.union(11, what), FULL, 6);
    }

    private static void collapseOfNobody() {
        noPerson((c, number) -> c.collapse(number, 1), (c, number) -> c.collapse(number, 15));
        refuse(RICH, (c, steps) -> c.collapse(6, steps), NO_ELEMENT, 0, 16, -1, MIN, MAX);
        refuse(RICH, (c, steps) -> c.collapse(-1, steps), NO_ELEMENT, 0, 16, -1, MIN, MAX);
        refuse(EMPTY, (c, steps) -> c.collapse(0, steps), NO_ELEMENT, 0, 16, MIN, MAX);
    }

    private static void collapseBySteps() {
        stands(RICH, (c, steps) -> c.collapse(4, steps), 1, 2, 14, 15);
        refuse(RICH, (c, steps) -> c.collapse(4, steps), BAD_ARGUMENT, 0, 16, -1, 17, MIN, MAX);
        refuse(FULL, (c, steps) -> c.collapse(15, steps), BAD_ARGUMENT, 0, 16, -1, MIN, MAX);
    }

    private static void box() {
        noRow((c, number) -> c.box(number, 0, 0), (c, number) -> c.box(number, 0, 3));
        noPlaceOfRich((c, number) -> c.box(2, number, 0), (c, number) -> c.box(2, number, 3));
        noPlaceOfFull((c, number) -> c.box(0, number, 0), (c, number) -> c.box(0, number, 3));
        noWhat((c, what) -> c.box(2, 1, what), RICH, 3);
        noWhat((c, what) -> c.box(0, 15, what), FULL, 3);
    }

    private static void crossingsIf() {
        noRow((c, number) -> c.crossingsIf(number, 0, 0));
        noPlaceOfRich((c, number) -> c.crossingsIf(2, number, 0), (c, number) -> c.crossingsIf(2, 0, number));
        noPlaceOfRich((c, number) -> c.crossingsIf(2, number, number));
        noPlaceOfFull((c, number) -> c.crossingsIf(0, number, 15), (c, number) -> c.crossingsIf(0, 15, number));
    }

    private static void formatOfNoLine() {
        stands(RICH, (c, line) -> c.format(line, 0, 10), 0, 8);
        refuse(RICH, (c, line) -> c.format(line, 0, 10), NO_ELEMENT, -1, 9, 10, 39, MIN, MIN + 1, MAX);
        refuse(RICH, (c, line) -> c.format(line, 0, 9), NO_ELEMENT, -1, 9, MIN, MAX);
        refuse(RICH, (c, line) -> c.format(line, -1, 201), NO_ELEMENT, -1, 0, 9, MIN, MAX);
        stands(FULL, (c, line) -> c.format(line, 0, 10), 0, 2);
        refuse(FULL, (c, line) -> c.format(line, 0, 10), NO_ELEMENT, -1, 3, MIN, MAX);
        refuse(EMPTY, (c, line) -> c.format(line, 0, 10), NO_ELEMENT, 0, 1, 2, -1, MIN, MAX);
        Scene ladder = Scene.of(Texts.ladder());
        stands(ladder, (c, line) -> c.format(line, 0, 10), 0, 38);
        refuse(ladder, (c, line) -> c.format(line, 0, 10), NO_ELEMENT, -1, 39);
    }

    private static void formatOfNoStrip() {
        stands(RICH, (c, strip) -> c.format(0, strip, 10), 0, 1, 2, 100, MAX);
        refuse(RICH, (c, strip) -> c.format(0, strip, 10), NO_ELEMENT, -1, -2, -10, MIN, MIN + 1);
        refuse(RICH, (c, strip) -> c.format(0, strip, 9), NO_ELEMENT, -1, MIN);
        refuse(RICH, (c, strip) -> c.format(0, strip, 201), NO_ELEMENT, -1, MIN);
    }

    private static void formatOfNoWidth() {
        noWidth((c, width) -> c.format(0, 0, width));
        noWidth((c, width) -> c.format(2, MAX, width));
    }

    private static void marryNobody() {
        noPerson((c, number) -> c.marry(number, 0, 0), (c, number) -> c.marry(0, number, 2100));
        noPerson((c, number) -> c.marry(number, number, 0));
        refuse(RICH, (c, year) -> c.marry(6, 0, year), NO_ELEMENT, -1, 2101, MIN, MAX);
        refuse(RICH, (c, year) -> c.marry(0, -1, year), NO_ELEMENT, -1, 2101, MIN, MAX);
        refuse(EMPTY, (c, year) -> c.marry(0, 0, year), NO_ELEMENT, -1, 0, 2101);
    }

    private static void marryInNoYear() {
        stands(RICH, (c, year) -> c.marry(1, 2, year), 0, 1, 2099, 2100);
        refuse(RICH, (c, year) -> c.marry(1, 2, year), BAD_ARGUMENT, -1, 2101, 2102, MIN, MAX);
        refuse(RICH, (c, year) -> c.marry(1, 1, year), BAD_ARGUMENT, -1, 2101, MIN, MAX);
        refuse(RICH, (c, year) -> c.marry(1, 0, year), BAD_ARGUMENT, -1, 2101, MIN, MAX);
        refuse(FULL, (c, year) -> c.marry(14, 15, year), BAD_ARGUMENT, -1, 2101, MIN, MAX);
    }

    private static void adopt() {
        noPerson((c, number) -> c.count(1) == 0 ? c.adopt(0, number) : c.adopt(c.count(1) - 1, number));
        noUnion((c, number) -> c.adopt(number, 5));
        noUnion((c, number) -> c.count(0) == 0 ? c.adopt(number, 0) : c.adopt(number, 2));
        refuse(RICH, (c, number) -> c.adopt(number, number), NO_ELEMENT, -1, 6, 16, MIN, MAX);
    }

    private static void swap() {
        noRow((c, number) -> c.swap(number, 0, 0));
        noPlaceOfRich((c, number) -> c.swap(2, number, 0), (c, number) -> c.swap(2, 0, number));
        noPlaceOfRich((c, number) -> c.swap(2, number, number));
        noPlaceOfFull((c, number) -> c.swap(0, number, 15), (c, number) -> c.swap(0, 15, number));
    }

    private static void improve() {
        for (Scene scene : new Scene[] {RICH, FULL, EMPTY}) {
            stands(scene, FamilyChart::improve, 0, 1, 4, 5);
            refuse(scene, FamilyChart::improve, BAD_ARGUMENT, -1, 6, 7, MIN, MAX);
        }
    }

    private static void lengths() {
        Scene fed = RICH.feed("many year > 1931    many");
        stands(fed, FamilyChart::query, 0, 1, 20, 40);
        refuse(fed, FamilyChart::query, BAD_ARGUMENT, -1, 41, 60, 200, 201, MIN, MIN + 1, MAX);
        stands(FULL, FamilyChart::query, 0, 199, 200);
        refuse(FULL, FamilyChart::query, BAD_ARGUMENT, -1, 201, 800, 801, MIN, MAX);
        stands(EMPTY, FamilyChart::query, 0);
        refuse(EMPTY, FamilyChart::query, BAD_ARGUMENT, -1, 1, 20, MIN, MAX);
    }

    private static void lengthsOfTexts() {
        Scene fed = Scene.richAndFed();
        stands(fed, FamilyChart::load, 0, 1, 42, 60);
        refuse(fed, FamilyChart::load, BAD_ARGUMENT, -1, 61, 80, 800, 801, MIN, MIN + 1, MAX);
        stands(FULL, FamilyChart::load, 0, 799, 800);
        refuse(FULL, FamilyChart::load, BAD_ARGUMENT, -1, 801, 820, MIN, MAX);
        stands(EMPTY, FamilyChart::load, 0);
        refuse(EMPTY, FamilyChart::load, BAD_ARGUMENT, -1, 1, 20, MIN, MAX);
    }

    private static void askings() {
        Checks.promise(3, "Throws `IllegalArgumentException` if length is negative or greater than the number of bytes "
                + "in the buffer (nothing changes)", RefusalsEdgesTest::lengthsOfTexts);
        Checks.promise(6, NO_PERSON + " or what is out of range", RefusalsEdgesTest::person);
        Checks.promise(7, "Throws `NoSuchElementException` if there is no such union or what is out of range",
                RefusalsEdgesTest::union);
        Checks.promise(8, "Throws `NoSuchElementException` if there is no such union",
                () -> noUnion(FamilyChart::children));
        Checks.promise(9, NO_PERSON, () -> noPerson(FamilyChart::ancestors));
        Checks.promise(10, NO_PERSON, () -> noPerson(FamilyChart::descendants));
        Checks.promise(11, NO_PERSON, () -> noPerson((c, number) -> c.kinship(number, 0),
                (c, number) -> c.kinship(0, number), (c, number) -> c.kinship(number, number)));
        Checks.promise(12, NO_PERSON, () -> noPerson((c, number) -> c.distance(number, 0),
                (c, number) -> c.distance(0, number), (c, number) -> c.distance(number, number)));
        Checks.promise(13, NO_PERSON, () -> noPerson((c, number) -> c.linesTo(number, 0),
                (c, number) -> c.linesTo(0, number), (c, number) -> c.linesTo(number, number)));
        Checks.promise(14, NO_PERSON, () -> noPerson((c, number) -> c.nearestAncestor(number, 0),
                (c, number) -> c.nearestAncestor(0, number), (c, number) -> c.nearestAncestor(number, number)));
        Checks.promise(15, NO_PERSON + " (checked first)", RefusalsEdgesTest::collapseOfNobody);
        Checks.promise(15, "Throws `IllegalArgumentException` if steps is out of range",
                RefusalsEdgesTest::collapseBySteps);
        Checks.promise(16, NO_ROW, () -> noRow(FamilyChart::boxes));
        Checks.promise(17, NO_PLACE + ", or what is out of range", RefusalsEdgesTest::box);
        Checks.promise(18, NO_PERSON, () -> noPerson(FamilyChart::place));
        Checks.promise(20, NO_ROW, () -> noRow((c, number) -> c.crossingsOf(number, false),
                (c, number) -> c.crossingsOf(number, true)));
        Checks.promise(21, NO_PLACE, RefusalsEdgesTest::crossingsIf);
        String noLine = "Throws `NoSuchElementException` if there is no such line or strip is negative (checked first)";
        Checks.promise(23, noLine, RefusalsEdgesTest::formatOfNoLine);
        Checks.promise(23, noLine, RefusalsEdgesTest::formatOfNoStrip);
        Checks.promise(23, "Throws `IllegalArgumentException` if width is out of range",
                RefusalsEdgesTest::formatOfNoWidth);
        Checks.promise(25, NO_WIDTH, () -> noWidth(FamilyChart::strips));
        Checks.promise(25, NO_WIDTH, () -> refuse(EMPTY, FamilyChart::strips, BAD_ARGUMENT, 9, 201, 0, -1, MIN, MAX));
        Checks.promise(26, NO_WIDTH, () -> noWidth(FamilyChart::cutBoxes));
        Checks.promise(26, NO_WIDTH, () -> refuse(EMPTY, FamilyChart::cutBoxes, BAD_ARGUMENT, 9, 201, 0, -1, MIN, MAX));
    }

    private static void changes() {
        Checks.promise(29, NO_PERSON + " (checked first)", RefusalsEdgesTest::marryNobody);
        Checks.promise(29, "Throws `IllegalArgumentException` if year is out of range",
                RefusalsEdgesTest::marryInNoYear);
        Checks.promise(30, "Throws `NoSuchElementException` if there is no such union or person",
                RefusalsEdgesTest::adopt);
        Checks.promise(31, NO_PERSON, () -> noPerson(FamilyChart::release));
        Checks.promise(32, NO_PLACE, RefusalsEdgesTest::swap);
        Checks.promise(33, "Throws `IllegalArgumentException` if rounds is out of range", RefusalsEdgesTest::improve);
        Checks.promise(40, "Throws `IllegalArgumentException` if length is negative, greater than 200, or greater than "
                + "the number of bytes in the buffer (nothing changes)", RefusalsEdgesTest::lengths);
    }

    public static void main(String[] args) {
        askings();
        changes();
        Checks.end("RefusalsEdgesTest");
    }
}
