/** The boundary cases that the document names under 'Columns': each sentence has a test of its own. */
public final class ColumnsEdgesTest {
    // e, the child of c, marries c, who has parents: the third row is [e] (c).
    private static final String PARENT_TWICE = Texts.persons(5) + "union a b 1 c;union c d 1 e;union c e 1;";

    private static void due(String what, long got, long want) {
        Checks.due(what, got, want);
    }

    private static void line(String text, int line, String want) {
        Checks.due("line " + line + " of " + text, Checks.printed(Checks.chartOf(text), line, 0, 200), want);
    }

    private static void begins(String text, int row, int place, int want) {
        String what = "first column at " + place + " in row " + row + " of " + text;
        due(what, Checks.chartOf(text).box(row, place, 2), want);
    }

    private static void widthsOfBoxes() {
        FamilyChart names = Checks.chartOf("person a 1;person abcdefgh 1;person ab 1;");
        due("a name of one letter", names.box(0, 0, 3), 3);
        due("a name of eight letters", names.box(0, 1, 3), 10);
        due("a name of two letters", names.box(0, 2, 3), 4);
        due("a reference of eight letters", Checks.chartOf(Texts.widest()).box(1, 24, 3), 10);
        due("a reference of one letter", Checks.chartOf(PARENT_TWICE).box(2, 1, 3), 3);
        line("person a 1;", 0, "[a]");
        line("person abcdefgh 1;", 0, "[abcdefgh]");
        line(PARENT_TWICE, 6, "    [e] (c)");
        String ofUnion0 = "person a 1;person b 1;person c 1;person def 1;union def c 1;union a b 1 c;";
        line(ofUnion0, 3, "  [c] (def)");
        due("a reference of union 0", Checks.chartOf(ofUnion0).box(1, 1, 3), 5);
    }

    private static void rowByRow() {
        Scene names = Scene.of("person abcdefgh 1;person b 1;person c 1;union b c 1;");
        int[] plain = {0, 11, 15};
        int[] swapped = {0, 4, 8};
        FamilyChart other = names.swap(0, 0, 2).chart();
        for (int place = 0; place < 3; place++) {
            due("first column " + place, names.chart().box(0, place, 2), plain[place]);
            due("first column behind swap " + place, other.box(0, place, 2), swapped[place]);
        }
        due("the width of the box that is there now", other.box(0, 2, 3), 10);
        // A child follows its parents when these are moved.
        Scene child = Scene.of(Texts.persons(5) + "union a b 1 e;");
        due("below a and b", child.chart().box(1, 0, 2), 2);
        due("below c and b", child.swap(0, 0, 2).chart().box(1, 0, 2), 6);
    }

    private static void shouldBegin() {
        begins("person abe 1;person eve 1;person kid 1;union abe eve 1 kid;", 1, 0, 3);
        begins("person abe 1;person eve 1;person kids 1;union abe eve 1 kids;", 1, 0, 2);
        begins("person a 1;person b 1;person c 1;union a b 1 c;", 1, 0, 2);
        begins("person a 1;person b 1;person cd 1;union a b 1 cd;", 1, 0, 1);
        begins("person a 1;person b 1;person cde 1;union a b 1 cde;", 1, 0, 1);
        begins("person a 1;person b 1;person cdef 1;union a b 1 cdef;", 1, 0, 0);
        begins("person a 1;person b 1;person cdefg 1;union a b 1 cdefg;", 1, 0, 0);
        // Without parents, and as a reference box, a box should begin at 0.
        begins(Texts.persons(1), 0, 0, 0);
        due("a reference box behind its child", Checks.chartOf(PARENT_TWICE).box(2, 1, 2), 8);
        due("a reference box ahead of its child", Scene.of(PARENT_TWICE).swap(2, 0, 1).chart().box(2, 0, 2), 0);
    }

    private static void begin() {
        begins("person a 1;person b 1;person cdefgh 1;union a b 1 cdefgh;", 1, 0, 0);
        begins("person a 1;person b 1;person abcdefgh 1;union a b 1 abcdefgh;", 1, 0, 0);
        begins(Texts.persons(2), 0, 1, 4);
        begins(Texts.persons(16), 0, 15, 60);
        String pairs = "person a 1;person b 1;person c 1;person d 1;person e 1;union a b 1 e;";
        begins(pairs + "person f 1;union c d 1 f;", 1, 1, 10);
        begins(pairs + "person f 1;union b c 1 f;", 1, 1, 6);
        begins(pairs + "person fg 1;union b c 1 fg;", 1, 1, 6);
        begins(pairs + "person fghi 1;union b c 1 fghi;", 1, 1, 6);
        // Pushed to the end of the box ahead + 1, where the child should begin too.
        due("just behind a reference box", Scene.of(PARENT_TWICE).swap(2, 0, 1).chart().box(2, 1, 2), 4);
        begins(Texts.widest(), 1, 0, 5);
        begins(Texts.widest(), 1, 24, 5 + 11 * 24);
    }

    private static void middleColumns() {
        due("of two odd boxes", Checks.chartOf("person a 1;person b 1;union a b 1;").union(0, 6), 3);
        due("of 1 and 6", Checks.chartOf("person a 1;person bc 1;union a bc 1;").union(0, 6), 3);
        due("of 2 and 6", Checks.chartOf("person ab 1;person c 1;union c ab 1;").union(0, 6), 4);
        due("of 2 and 7", Checks.chartOf("person ab 1;person cd 1;union cd ab 1;").union(0, 6), 4);
        due("of 2 and 8", Checks.chartOf("person abe 1;person eve 1;union abe eve 1;").union(0, 6), 5);
        due("of 5 and 16", Checks.chartOf(Texts.widest()).union(0, 6), 10);
        due("of two far boxes", Checks.chartOf(Texts.persons(16) + "union a p 1;").union(0, 6), 31);
        due("with a reference box", Checks.chartOf(PARENT_TWICE).union(2, 6), 7);
        due("with a reference box at 0", Scene.of(PARENT_TWICE).swap(2, 0, 1).chart().union(2, 6), 3);
    }

    private static void threeLines() {
        Scene one = Scene.of(Texts.persons(1));
        Checks.due("the first line", Checks.printed(one.chart(), 0, 0, 10), "[a]");
        Checks.due("the second line", Checks.printed(one.chart(), 1, 0, 10), "");
        Checks.due("the third line", Checks.printed(one.chart(), 2, 0, 10), "");
        Checks.refusedElement("line 3 of one row", one, c -> c.format(3, 0, 10));
        Scene ladder = Scene.of(Texts.ladder());
        due("the last line of 13 rows", ladder.chart().format(38, 0, 10), 0);
        Checks.refusedElement("line 39 of 13 rows", ladder, c -> c.format(39, 0, 10));
        Checks.refusedElement("line 0 of no rows", Scene.empty(), c -> c.format(0, 0, 10));
        String[] lines = {"[a] [b] [d]", "   a", "   a", "  [c] (d)", "     b", "     b", "    [e] (c)", "       c",
                ""};
        for (int i = 0; i < lines.length; i++) {
            line(PARENT_TWICE, i, lines[i]);
        }
    }

    private static void lettersOfUnions() {
        line(Texts.persons(13) + Texts.unions(12), 1, "   a b c d e f g h i j k l");
        // In row g of the ladder the middles are 2 * g + 1 of the child and 2 * g + 5 of the reference box.
        line(Texts.ladder(), 34, " ".repeat(25) + "l");
    }

    private static void marksOfUnions() {
        String four = Texts.persons(4);
        line(four + "union a d 1;union b c 1;", 1, "       ab");
        line(four + "union b c 1;union a d 1;", 1, "       ab");
        String six = Texts.persons(6);
        line(six + "union b f 1;union a f 1;union b e 1;union c d 1;", 1, "           bcad");
        line(six + "union a f 1;union b e 1;union c d 1;union b f 1;", 1, "           abcd");
        line(four + "union a d 1;union a b 1;union c d 1;", 1, "   b   a   c");
        line(four, 1, "");
        // Neither the children nor the union of the next level leave a mark here.
        line(Texts.persons(5) + "union a b 1 c d e;", 1, "   a");
        line(Texts.CROSSED, 1, "   b       a");
        line(PARENT_TWICE, 1, "   a");
        line(PARENT_TWICE, 4, "     b");
    }

    private static void marksOfPersons() {
        line(Texts.CROSSED, 2, "           a   b");
        line(Texts.CROSSED, 5, "");
        line(Texts.persons(5) + "union a b 1 c d e;", 2, "   a   a   a");
        line(Texts.persons(5) + "union a b 1 c d e;", 0, "[a] [b]");
        line(Texts.persons(5) + "union a b 1 c d e;", 3, "  [c] [d] [e]");
        // c has parents and a reference box in the third row, but no main box there.
        line(PARENT_TWICE, 5, "     b");
        line(Texts.persons(3) + "union b c 1 a;", 2, "   a");
        line(Texts.persons(16) + "union b c 1 a;union c d 1 p;", 2, "   a   b");
        line(Texts.persons(2) + "union a b 1;", 2, "");
        line(Texts.persons(16), 2, "");
    }

    private static void blanks() {
        FamilyChart chart = Checks.chartOf(Texts.persons(16) + "union o p 1;");
        due("up to the last mark", chart.format(1, 0, 200), 60);
        for (int i = 0; i < 59; i++) {
            due("column " + i, chart.formattedByte(i), ' ');
        }
        due("the mark", chart.formattedByte(59), 'a');
        due("behind it", chart.formattedByte(60), -1);
        due("a blank between two boxes", chart.format(0, 0, 200), 63);
        due("the blank", chart.formattedByte(3), ' ');
    }

    private static void longestLine() {
        due("without persons", new FamilyChart().width(), 0);
        due("one box", Checks.chartOf(Texts.persons(1)).width(), 3);
        due("one wide box", Checks.chartOf("person abcdefgh 1;").width(), 10);
        due("16 boxes", Checks.chartOf(Texts.persons(16)).width(), 63);
        due("the first row", Checks.chartOf(Texts.persons(8) + "union a b 1 c;").width(), 27);
        due("the last row", Checks.chartOf(Texts.FAMILY).width(), 11);
        due("the widest row", Checks.chartOf(Texts.widest()).width(), 279);
        due("behind an empty text", Scene.rich().load("").chart().width(), 0);
    }

    private static void columnsOfStrips() {
        Scene widest = Scene.of(Texts.widest());
        due("a full strip", widest.chart().format(3, 0, 200), 200);
        due("the rest", widest.chart().format(3, 1, 200), 79);
        Checks.due("the first strip of 10", Checks.printed(widest.chart(), 3, 0, 10), "     [abcd");
        Checks.due("the second strip of 10", Checks.printed(widest.chart(), 3, 1, 10), "efgc] [abc");
        Checks.due("the last strip of 10", Checks.printed(widest.chart(), 3, 27, 10), "abcdefga)");
        due("the strip behind", widest.chart().format(3, 28, 10), 0);
        Checks.due("the strip from column 186 on", Checks.printed(widest.chart(), 3, 2, 93).substring(0, 17),
                "efga) (abcdefga) ");
        Checks.due("the strip from column 200 on", Checks.printed(widest.chart(), 3, 1, 200).substring(0, 7),
                "a) (abc");
        due("a strip that ends with the line", widest.chart().format(3, 2, 93), 93);
        due("the strip behind it", widest.chart().format(3, 3, 93), 0);
        due("a strip of one column", widest.chart().format(3, 2, 139), 1);
        Checks.due("the last column", Checks.printed(widest.chart(), 3, 2, 139), ")");
    }

    public static void main(String[] args) {
        Checks.sentence("A main box is printed as '[', the name and ']', a reference box as '(', the name and ')'; its "
                + "width is the number of these letters.", ColumnsEdgesTest::widthsOfBoxes);
        Checks.sentence("The first column of each box is told row by row, from the first box to the last one.",
                ColumnsEdgesTest::rowByRow);
        Checks.sentence("A box that is the main box of a person with parents should begin at m - width / 2 (rounded "
                + "down), where m is the middle column of the union of the parents; other boxes should begin at 0.",
                ColumnsEdgesTest::shouldBegin);
        Checks.sentence("A box begins at the greatest one of 0, where it should begin, and (if it is not the first one "
                + "of its row) the end of the box ahead + 1, where the end is its first column + its width.",
                ColumnsEdgesTest::begin);
        Checks.sentence("The middle column of a union is (c + d) / 2, rounded down, where c and d are the middle "
                + "columns of its two boxes; the middle column of a box is its first column + width / 2, rounded down.",
                ColumnsEdgesTest::middleColumns);
        Checks.sentence("The chart is printed in three lines for each row: the boxes in their columns; the marks of "
                + "the unions of this level; the marks of the persons in the next row.", ColumnsEdgesTest::threeLines);
        Checks.sentence("The mark of a union is a letter, 'a' for union 0 and so on.",
                ColumnsEdgesTest::lettersOfUnions);
        Checks.sentence("In the second line the unions of this level are put by ascending numbers, each at its middle "
                + "column, or, if there is a mark already, at the next free column to the right.",
                ColumnsEdgesTest::marksOfUnions);
        Checks.sentence("In the third line, for each person in the next row who has parents, the mark of their union "
                + "is put at the middle column of the main box (no mark of a person is put where there is one "
                + "already).", ColumnsEdgesTest::marksOfPersons);
        Checks.sentence("All other columns are blanks up to the last one that is not blank.", ColumnsEdgesTest::blanks);
        Checks.sentence("The width of the chart is the number of bytes of its longest line.",
                ColumnsEdgesTest::longestLine);
        Checks.sentence("In strips of the width w, strip k contains the columns from w * k to w * k + w - 1.",
                ColumnsEdgesTest::columnsOfStrips);
        Checks.end("ColumnsEdgesTest");
    }
}
