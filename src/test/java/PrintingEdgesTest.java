/** The boundary cases that promises 22 to 28 name in what they answer: each sentence has a test of its own. */
public final class PrintingEdgesTest {
    private static final int MIN = Checks.MIN;
    private static final int MAX = Checks.MAX;
    private static final Scene RICH = Scene.rich();
    private static final Scene FULL = Scene.full();
    private static final Scene EMPTY = Scene.empty();

    private static void due(String what, long got, long want) {
        Checks.due(what, got, want);
    }

    private static void widths() {
        due("of nobody", EMPTY.chart().width(), 0);
        due("of one", Checks.chartOf(Texts.persons(1)).width(), 3);
        due("the greatest one", Checks.chartOf(Texts.widest()).width(), 279);
        due("behind a swap", Scene.of(Texts.CROSSED).swap(1, 0, 1).chart().width() > 0 ? 1 : 0, 1);
        due("behind the release of all children", Scene.of(Texts.FAMILY).then(c -> c.release(2)).then(c -> c.release(3))
                .then(c -> c.release(4)).chart().width(), 24);
    }

    private static void formats() {
        due("the first line", RICH.chart().format(0, 0, 10) > 0 ? 1 : 0, 1);
        due("the last line", RICH.chart().format(8, 0, 10), 0);
        due("the last line that is not empty", RICH.chart().format(7, 0, 10) > 0 ? 1 : 0, 1);
        due("the last line of 13 rows", Checks.chartOf(Texts.ladder()).format(38, 0, 200), 0);
        due("the last boxes of 13 rows", Checks.chartOf(Texts.ladder()).format(36, 0, 200), 27);
        due("the narrowest strip", FULL.chart().format(0, 0, 10), 10);
        due("the widest strip", FULL.chart().format(0, 0, 200), 63);
        due("the widest strip that is full", Checks.chartOf(Texts.widest()).format(3, 0, 200), 200);
        due("the greatest strip", FULL.chart().format(0, Integer.MAX_VALUE, 10), 0);
    }

    private static void linesThatEndAhead() {
        Scene scene = Scene.of(Texts.persons(5));
        int[][] want = {{10, 10, 0}, {10, 9, 1}, {11, 8, 1}, {18, 1, 1}, {19, 0, 1}, {20, 0, 1}, {200, 0, 1}};
        for (int[] row : want) {
            due("strip 0 of " + row[0], scene.chart().format(0, 0, row[0]), Math.min(row[0], 19));
            due("strip 1 of " + row[0], scene.chart().format(0, 1, row[0]), row[0] == 10 ? 9 : row[1]);
            due("strip 2 of " + row[0], scene.chart().format(0, 2, row[0]), 0);
        }
        due("the greatest strip", scene.chart().format(0, MAX, 200), 0);
        due("the greatest strip of 10", scene.chart().format(0, MAX, 10), 0);
        // Strips that begin so far behind that 32 bits would lead back to the first columns.
        for (int width = 10; width <= 200; width++) {
            long turn = 1L << 32;
            int strip = (int) ((turn + width - 1) / width);
            due("strip " + strip + " of " + width, scene.chart().format(0, strip, width), 0);
            int half = (int) (turn / 2 / width);
            due("strip " + half + " of " + width, scene.chart().format(0, half, width), 0);
            due("the strip behind it", scene.chart().format(0, half + 1, width), 0);
        }
    }

    // Blanks stand in a strip as long as the line goes on behind it.
    private static void blanksOfStrips() {
        FamilyChart gap = Checks.chartOf(Texts.persons(16) + "union o p 1;");
        due("a strip of blanks", gap.format(1, 0, 10), 10);
        due("its first byte", gap.formattedByte(0), ' ');
        due("its last byte", gap.formattedByte(9), ' ');
        due("the strip with the mark", gap.format(1, 5, 10), 10);
        due("the mark", gap.formattedByte(9), 'a');
        due("the strip behind", gap.format(1, 6, 10), 0);
        due("a strip that begins with the mark", gap.format(1, 1, 59), 1);
        due("a strip that ends ahead of the mark", gap.format(1, 0, 59), 59);
        due("a strip that ends with the mark", gap.format(1, 0, 60), 60);
    }

    private static void bytesOfFormat() {
        Scene scene = Scene.of(Texts.persons(2)).format(0, 0, 10);
        String text = "[a] [b]";
        for (int i = 0; i < text.length(); i++) {
            due("byte " + i, scene.chart().formattedByte(i), text.charAt(i));
        }
        for (int index : new int[] {-1, 7, 8, 9, 10, 200, MIN, MIN + 1, MAX}) {
            Checks.refused("byte " + index, scene, c -> c.formattedByte(index), -1);
            Checks.refused("byte " + index + " without a call", EMPTY, c -> c.formattedByte(index), -1);
        }
        due("byte 0 without a call", EMPTY.chart().formattedByte(0), -1);
        due("byte 0 of persons without a call", Checks.chartOf(Texts.persons(2)).formattedByte(0), -1);
        FamilyChart widest = Scene.of(Texts.widest()).format(3, 0, 200).chart();
        due("byte 199", widest.formattedByte(199), 'g');
        due("byte 200", widest.formattedByte(200), -1);
        Scene shorter = Scene.of(Texts.widest()).format(3, 0, 200).format(3, 27, 10);
        due("the last byte of a shorter text", shorter.chart().formattedByte(8), ')');
        due("behind a shorter text", shorter.chart().formattedByte(9), -1);
        due("behind a text of none", scene.format(1, 0, 10).chart().formattedByte(0), -1);
        due("behind a strip that is far", scene.format(0, 5, 10).chart().formattedByte(0), -1);
    }

    private static void asItWasThen() {
        Scene scene = Scene.of(Texts.FAMILY).save().format(0, 0, 10);
        Checks.Ask[] calls = {c -> c.swap(0, 0, 1), c -> c.marry(0, 4, 1), c -> c.release(2), FamilyChart::arrange,
                c -> c.restoreSnapshot() ? 1 : 0, c -> Checks.load(c, Texts.persons(3)), c -> Checks.load(c, ""),
                c -> Checks.load(c, "x"), c -> Checks.query(c, "many 0=0"), FamilyChart::width, c -> c.strips(10),
                c -> c.cutBoxes(10), c -> c.crossingsIf(0, 0, 1), c -> c.union(0, 6), c -> c.format(9, 0, 10),
                c -> c.format(0, -1, 10), c -> c.format(0, 0, 9)};
        String text = "[al] [bo]";
        for (int call = 0; call < calls.length; call++) {
            FamilyChart chart = scene.then(calls[call]).chart();
            for (int i = 0; i <= text.length(); i++) {
                due("byte " + i + " behind call " + call, chart.formattedByte(i), i < 9 ? text.charAt(i) : -1);
            }
        }
    }

    private static void stripsOfAWidth() {
        due("none of 10", EMPTY.chart().strips(10), 0);
        due("none of 200", EMPTY.chart().strips(200), 0);
        Scene widest = Scene.of(Texts.widest());
        int[][] want = {{10, 28}, {11, 26}, {31, 9}, {93, 3}, {94, 3}, {139, 3}, {140, 2}, {199, 2}, {200, 2}};
        for (int[] row : want) {
            due("strips of " + row[0], widest.chart().strips(row[0]), row[1]);
        }
        Scene ten = Scene.of("person abcdefgh 1;");
        due("one that is full", ten.chart().strips(10), 1);
        due("one column more", Scene.of("person abcd 1;person ab 1;").chart().strips(10), 2);
        due("one that is not full", ten.chart().strips(11), 1);
    }

    private static void cutByStrips() {
        due("none of 10", EMPTY.chart().cutBoxes(10), 0);
        Scene widest = Scene.of(Texts.widest());
        due("a box that fills a strip", Checks.chartOf("person abcdefgh 1;").cutBoxes(10), 0);
        due("by 10", widest.chart().cutBoxes(10), 1 + 23);
        due("by 11", widest.chart().cutBoxes(11), 25);
        due("by 200", widest.chart().cutBoxes(200), 1);
        due("a reference box alone", widest.chart().cutBoxes(196), 1);
        // [a] [b] [c] are in the columns 0 to 2, 4 to 6 and 8 to 10.
        due("the last column in the next strip", Checks.chartOf(Texts.persons(3)).cutBoxes(10), 1);
        due("the last column in the same strip", Checks.chartOf(Texts.persons(3)).cutBoxes(11), 0);
        due("the first column in the next strip", Checks.chartOf(Texts.persons(4)).cutBoxes(12), 0);
        due("the second column in the next strip", Checks.chartOf(Texts.persons(4)).cutBoxes(13), 1);
    }

    private static void shareOfReferences() {
        due("without boxes", Float.floatToRawIntBits(EMPTY.chart().repeated()), 0);
        due("without boxes behind a text", Float.floatToRawIntBits(RICH.load("").chart().repeated()), 0);
        due("without references", Float.floatToRawIntBits(FULL.chart().repeated()), 0);
        due("1 of 7", Float.floatToRawIntBits(RICH.chart().repeated()), Float.floatToRawIntBits(1f / 7f));
        due("11 of 25", Float.floatToRawIntBits(Checks.chartOf(Texts.ladder()).repeated()),
                Float.floatToRawIntBits(11f / 25f));
        due("11 of 27", Float.floatToRawIntBits(Checks.chartOf(Texts.widest()).repeated()),
                Float.floatToRawIntBits(11f / 27f));
    }

    private static void sumOfKinships() {
        due("without persons", Double.doubleToRawLongBits(EMPTY.chart().inbreeding()), 0);
        due("without unions", Double.doubleToRawLongBits(Checks.chartOf(Texts.persons(16)).inbreeding()), 0);
        due("behind a text of no unions", Double.doubleToRawLongBits(RICH.load("").chart().inbreeding()), 0);
        due("of strangers", Double.doubleToRawLongBits(FULL.chart().inbreeding()), 0);
        due("of siblings", Double.doubleToRawLongBits(Checks.chartOf(Texts.FAMILY).inbreeding()),
                Double.doubleToRawLongBits(0.25));
        due("of the first union alone", Double.doubleToRawLongBits(Checks.chartOf(Texts.persons(4)
                + "union c d 1;union a b 1 c d;").inbreeding()), Double.doubleToRawLongBits(0.25));
        due("of the last union alone", Double.doubleToRawLongBits(Checks.chartOf(Texts.persons(16) + Texts.unions(10)
                + "union p o 1 n m;union n m 1;").inbreeding()),
                Double.doubleToRawLongBits((double) (1L << 38) / (double) (12 * (1L << 39))));
        // Eleven children of both partners marry the first one, with whom the kinship is 2^38 each.
        double widest = (double) (11 * (1L << 38)) / (double) (12 * (1L << 39));
        due("of eleven children", Double.doubleToRawLongBits(Checks.chartOf(Texts.widest()).inbreeding()),
                Double.doubleToRawLongBits(widest));
    }

    public static void main(String[] args) {
        Checks.promise(22, "Returns the width of the chart.", PrintingEdgesTest::widths);
        Checks.promise(23, "`line`: 0 to 3 * rows - 1 - `strip`: 0 or more - `width`: 10 to 200, the width of the "
                + "strips", PrintingEdgesTest::formats);
        Checks.promise(23, "Formats a part of a printed line as text: the bytes of the line in the columns of the "
                + "strip, without blanks behind the last byte of the line that is not blank.",
                PrintingEdgesTest::blanksOfStrips);
        Checks.promise(23, "Returns the number of bytes of the text (0 if the line ends ahead of the strip).",
                PrintingEdgesTest::linesThatEndAhead);
        String bytes = "Returns the byte at index of the text of the most recent call of format, as it was then; NONE "
                + "if index is out of range or there was no such call.";
        Checks.promise(24, bytes, PrintingEdgesTest::bytesOfFormat);
        Checks.promise(24, bytes, PrintingEdgesTest::asItWasThen);
        Checks.promise(25, "Returns the number of strips of a width in which the chart is printed (0 if its width is "
                + "0).", PrintingEdgesTest::stripsOfAWidth);
        Checks.promise(26, "Returns the number of boxes that are cut by strips of a width (those that lie in more than "
                + "one).", PrintingEdgesTest::cutByStrips);
        Checks.promise(27, "Returns the share of reference boxes: their number divided by the number of all boxes, as "
                + "floats (both converted to float, then divided); 0 without boxes.",
                PrintingEdgesTest::shareOfReferences);
        Checks.promise(28, "Returns the sum of the kinships of the partners of all unions divided by (their number * "
                + "2^39), as doubles (both converted to double, then divided); 0 without unions.",
                PrintingEdgesTest::sumOfKinships);
        Checks.end("PrintingEdgesTest");
    }
}
