/** The boundary cases that the document names under 'Rows': each sentence has a test of its own. */
public final class RowsEdgesTest {
    private static final String FOUR = Texts.persons(4);
    // A pair with the children c and d in row 1, both married to e of row 0, who stands there twice more.
    private static final String TWICE = Texts.persons(5) + "union a b 1 c d;union e c 1;union e d 1;";

    private static void due(String what, long got, long want) {
        Checks.due(what, got, want);
    }

    private static void rowForEachGeneration() {
        due("rows without persons", new FamilyChart().count(2), 0);
        due("rows behind an empty text", Scene.rich().load("").chart().count(2), 0);
        due("rows of one person", Checks.chartOf(Texts.persons(1)).count(2), 1);
        due("rows of 16 persons", Scene.full().chart().count(2), 1);
        Scene ladder = Scene.of(Texts.ladder());
        due("rows of the ladder", ladder.chart().count(2), 13);
        due("its last row", ladder.chart().boxes(12), 1);
        due("rows behind release", ladder.then(c -> c.release(13)).chart().count(2), 12);
        due("rows behind undo", ladder.then(c -> c.release(13)).then(FamilyChart::undo).chart().count(2), 13);
        Checks.refusedElement("row 13", ladder, c -> c.boxes(13));
        Checks.refusedElement("row -1", ladder, c -> c.boxes(-1));
        Checks.refusedElement("row 0 without persons", Scene.empty(), c -> c.boxes(0));
    }

    private static void referenceBoxes() {
        due("partners of generation 0", Checks.chartOf(FOUR + "union a b 1;union c d 1;").count(4), 0);
        due("partners of generation 1", Checks.chartOf(FOUR + "union a b 1 c d;union c d 1;").count(4), 0);
        String three = FOUR + "union a b 1 c;";
        FamilyChart first = Checks.chartOf(three + "union d c 1;");
        due("the first partner is less", first.count(4), 1);
        due("its person", first.box(1, 1, 0), 3);
        due("its union", first.box(1, 1, 1), 1);
        FamilyChart second = Checks.chartOf(three + "union c d 1;");
        due("the second partner is less", second.count(4), 1);
        due("its person", second.box(1, 1, 0), 3);
        due("the main box in row 1", second.box(1, 0, 1), -1);
        due("its own main box is in row 0", second.box(0, 2, 0), 3);
        due("boxes of row 0", second.boxes(0), 3);
        FamilyChart ofUnion0 = Checks.chartOf(FOUR + "union d c 1;union a b 1 c;");
        due("the reference box of union 0", ofUnion0.box(1, 1, 1), 0);
        due("its person", ofUnion0.box(1, 1, 0), 3);
        FamilyChart twice = Checks.chartOf(TWICE);
        due("two of one person in one row", twice.count(4), 2);
        due("all boxes", twice.count(3), 7);
        FamilyChart far = Checks.chartOf(Texts.ladder());
        far.marry(0, 13, 1);
        due("a union that is refused brings none", far.count(4), 11);
        FamilyChart widest = Checks.chartOf(Texts.widest());
        due("the most boxes in a row", widest.boxes(1), 25);
        due("its last main box", widest.box(1, 13, 0), 15);
        due("its last reference box", widest.box(1, 24, 1), 11);
    }

    private static void numberedFromZero() {
        Scene scene = Scene.of(TWICE);
        due("the first box", scene.chart().box(1, 0, 0), 2);
        due("the last box", scene.chart().box(1, 3, 1), 2);
        due("the first place", scene.chart().place(2), 0);
        Checks.refusedElement("place 4", scene, c -> c.box(1, 4, 0));
        Checks.refusedElement("place -1", scene, c -> c.box(1, -1, 0));
        Checks.refusedElement("place 3 in row 0", scene, c -> c.box(0, 3, 0));
    }

    private static void plainOrder() {
        // The references stand by their unions, e ahead of d; the main boxes by persons, though told otherwise.
        FamilyChart chart = Checks.chartOf(Texts.persons(7) + "union a b 1 g f;union e g 1;union d f 1;union d g 1;");
        int[][] want = {{5, -1}, {6, -1}, {4, 1}, {3, 2}, {3, 3}};
        for (int place = 0; place < 5; place++) {
            due("person at " + place, chart.box(1, place, 0), want[place][0]);
            due("union at " + place, chart.box(1, place, 1), want[place][1]);
        }
        FamilyChart full = Checks.chartOf(Texts.persons(16));
        for (int place = 0; place < 16; place++) {
            due("place of " + place, full.place(place), place);
        }
    }

    private static Scene swappedEverywhere() {
        return Scene.of(Texts.FAMILY + "person otto 7;").swap(0, 0, 2).swap(1, 0, 1);
    }

    private static void comesBack(String what, Scene scene) {
        FamilyChart chart = scene.chart();
        due("row 0 behind " + what, chart.place(0), 0);
        due("row 0 behind " + what, chart.place(1), 1);
        due("row 1 behind " + what, chart.box(1, 0, 0), 2);
        due("row 1 behind " + what, chart.box(1, 1, 0), 3);
    }

    private static void stays(String what, Checks.Ask ask, long want) {
        FamilyChart chart = swappedEverywhere().chart();
        due(what, Checks.outcome(() -> ask.of(chart)), want);
        due("row 0 behind " + what, chart.place(0), 2);
        due("row 1 behind " + what, chart.place(2), 1);
    }

    private static void plainAgain() {
        comesBack("marry", swappedEverywhere().then(c -> c.marry(0, 5, 1)));
        comesBack("adopt", swappedEverywhere().then(c -> c.adopt(1, 5)));
        comesBack("release", swappedEverywhere().then(c -> c.release(4)));
        stays("marry of partners", c -> c.marry(0, 1, 1), -2);
        stays("marry of nobody", c -> c.marry(0, 6, 1), Checks.NO_ELEMENT);
        stays("marry in 2101", c -> c.marry(0, 5, 2101), Checks.BAD_ARGUMENT);
        stays("adopt of a child", c -> c.adopt(0, 2), -2);
        stays("adopt of a partner", c -> c.adopt(0, 0), -3);
        stays("adopt into no union", c -> c.adopt(2, 5), Checks.NO_ELEMENT);
        stays("release of a root", c -> c.release(0), -2);
        stays("release of nobody", c -> c.release(6), Checks.NO_ELEMENT);
        FamilyChart full = Scene.of(Texts.persons(14) + Texts.unions(12)).swap(0, 0, 2).chart();
        due("a 13th union", full.marry(0, 13, 1), -3);
        due("row 0 behind a 13th union", full.place(0), 2);
    }

    private static void boxOfAPartner() {
        FamilyChart twice = Checks.chartOf(TWICE);
        due("with the first reference box", twice.union(1, 5), 2 + 0);
        due("with the second reference box", twice.union(2, 5), 3 + 1);
        due("with the main boxes", twice.union(0, 5), 0 + 1);
        twice.swap(1, 2, 3);
        due("with the first reference box at 3", twice.union(1, 5), 3 + 0);
        due("with the second reference box at 2", twice.union(2, 5), 2 + 1);
        twice.swap(0, 0, 2);
        due("the main box of e moves no reference box", twice.union(1, 5), 3 + 0);
    }

    private static void middles() {
        FamilyChart full = Checks.chartOf(Texts.persons(16) + "union a b 1;union p o 1;union a p 1;");
        due("the least middle", full.union(0, 5), 1);
        due("the greatest middle", full.union(1, 5), 29);
        due("the first place and the last one", full.union(2, 5), 15);
        FamilyChart widest = Checks.chartOf(Texts.widest());
        due("a reference box at the end of a row of 25", widest.union(11, 5), 24 + 10);
    }

    private static void crossed(String unions, int want) {
        due("crossings of " + unions, Checks.chartOf(FOUR + unions).crossingsOf(0, false), want);
    }

    private static void crossingsInARow() {
        crossed("union a c 1;union b d 1;", 1);
        crossed("union c a 1;union b d 1;", 1);
        crossed("union a c 1;union d b 1;", 1);
        crossed("union b d 1;union a c 1;", 1);
        crossed("union a d 1;union b c 1;", 0);
        crossed("union b c 1;union d a 1;", 0);
        crossed("union a b 1;union c d 1;", 0);
        crossed("union c d 1;union a b 1;", 0);
        crossed("union a c 1;union a d 1;", 0);
        crossed("union a c 1;union c d 1;", 0);
        crossed("union a c 1;union b c 1;", 0);
        crossed("union a d 1;union d b 1;", 0);
        crossed("union a c 1;union b d 1;union a d 1;union b c 1;", 1);
        // Two boxes of one person are not the same box.
        due("two reference boxes of one person", Checks.chartOf(TWICE).crossingsOf(1, false), 1);
        due("nested", Scene.of(TWICE).swap(1, 2, 3).chart().crossingsOf(1, false), 0);
        due("side by side", Scene.of(TWICE).swap(1, 1, 2).chart().crossingsOf(1, false), 0);
        due("unions of another level", Checks.chartOf(TWICE).crossingsOf(0, false), 0);
        String levels = Texts.persons(8) + "union a c 1;union b d 1;union a b 1 e f g h;union e g 1;union f h 1;";
        due("row 0 alone", Checks.chartOf(levels).crossingsOf(0, false), 1);
        due("row 1 alone", Checks.chartOf(levels).crossingsOf(1, false), 1);
        due("both", Checks.chartOf(levels).crossings(), 2);
    }

    private static void crossingsBelowARow() {
        String pairs = Texts.persons(6);
        due("less and ahead", Checks.chartOf(pairs + "union a b 1 e;union c d 1 f;").crossingsOf(0, true), 0);
        due("less and behind", Checks.chartOf(pairs + "union a b 1 f;union c d 1 e;").crossingsOf(0, true), 1);
        due("told later", Checks.chartOf(pairs + "union c d 1 e;union a b 1 f;").crossingsOf(0, true), 1);
        due("equal middles", Checks.chartOf(pairs + "union a d 1 f;union b c 1 e;").crossingsOf(0, true), 0);
        due("equal middles, later", Checks.chartOf(pairs + "union b c 1 e;union a d 1 f;").crossingsOf(0, true), 0);
        due("middles one apart", Checks.chartOf(pairs + "union a c 1 f;union a d 1 e;").crossingsOf(0, true), 1);
        due("children of one union", Scene.of(pairs + "union a b 1 c d e f;").swap(1, 0, 3).chart().crossings(), 0);
        String many = Texts.persons(8);
        due("each child with each", Checks.chartOf(many + "union c d 1 e f;union a b 1 g h;").crossingsOf(0, true), 4);
        due("three of four", Checks.chartOf(many + "union c d 1 e g;union a b 1 f h;").crossingsOf(0, true), 3);
        due("below the last row", Checks.chartOf(many + "union c d 1 e;union a b 1 f;").crossingsOf(1, true), 0);
        due("below the only row", Checks.chartOf(many).crossingsOf(0, true), 0);
        due("no child in a reference box of union 0",
                Checks.chartOf(FOUR + "union d c 1;union a b 1 c;").crossingsOf(0, true), 0);
        String deep = Texts.persons(12) + "union a b 1 e f g h;union g h 1 i;union e f 1 j;union i j 1 k;";
        due("below row 1", Checks.chartOf(deep).crossingsOf(1, true), 1);
        due("below row 0", Checks.chartOf(deep).crossingsOf(0, true), 0);
        due("below row 2", Checks.chartOf(deep).crossingsOf(2, true), 0);
        due("below all rows", Checks.chartOf(deep).crossings(), 1);
        due("below the row above", Checks.chartOf(Texts.ladder()).crossingsOf(11, true), 0);
    }

    private static void allCrossings() {
        due("without persons", new FamilyChart().crossings(), 0);
        due("of one person", Checks.chartOf(Texts.persons(1)).crossings(), 0);
        FamilyChart both = Checks.chartOf(Texts.persons(6) + "union b d 1 e;union a c 1 f;");
        due("in the row", both.crossingsOf(0, false), 1);
        due("below the row", both.crossingsOf(0, true), 1);
        due("together", both.crossings(), 2);
        FamilyChart last = Checks.chartOf(TWICE);
        due("those in the last row too", last.crossings(), 1);
    }

    public static void main(String[] args) {
        Checks.sentence("The chart has a row for each generation from 0 to the greatest one (none without persons).",
                RowsEdgesTest::rowForEachGeneration);
        Checks.sentence("Row g contains a box for each person of the generation g (the main box), and for each union "
                + "of the level g and each of its partners with a lesser generation a reference box.",
                RowsEdgesTest::referenceBoxes);
        Checks.sentence("The boxes of a row have an order, numbered from 0.", RowsEdgesTest::numberedFromZero);
        Checks.sentence("The plain order: main boxes by ascending persons, then reference boxes by ascending unions.",
                RowsEdgesTest::plainOrder);
        Checks.sentence("Each successful call of marry, adopt or release brings the plain order of all rows back.",
                RowsEdgesTest::plainAgain);
        Checks.sentence("The box of a partner in a union is the reference box for this union, if there is one, "
                + "otherwise the main box.", RowsEdgesTest::boxOfAPartner);
        Checks.sentence("The middle of a union is the sum of the places of the boxes of both partners in their row.",
                RowsEdgesTest::middles);
        Checks.sentence("Crossings in a row: the pairs of unions of this level for which exactly one box of the one "
                + "lies strictly between both boxes of the other, and one outside of them (neither of the four boxes "
                + "is the same).", RowsEdgesTest::crossingsInARow);
        Checks.sentence("Crossings below a row: the pairs of children of different unions of this level for which the "
                + "middle of the union of one is less than that of the other, but its place in the next row is "
                + "greater.", RowsEdgesTest::crossingsBelowARow);
        Checks.sentence("The crossings of the chart are all of these together.", RowsEdgesTest::allCrossings);
        Checks.end("RowsEdgesTest");
    }
}
