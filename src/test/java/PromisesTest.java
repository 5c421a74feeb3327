/** The promises one by one, with answers worked out by hand: ordinary inputs, edges, wrong inputs. */
public final class PromisesTest {
    private static final int MIN = Integer.MIN_VALUE;
    private static final int MAX = Integer.MAX_VALUE;

    private static void due(String what, long got, long want) {
        Checks.due(what, got, want);
    }

    private static void newObject() {
        FamilyChart chart = new FamilyChart();
        for (int what = 0; what < 7; what++) {
            due("new count", chart.count(what), 0);
        }
        due("new errorPosition", chart.errorPosition(), -1);
        due("new formattedByte", chart.formattedByte(0), -1);
        due("new crossings", chart.crossings(), 0);
        due("new width", chart.width(), 0);
        due("new strips", chart.strips(10), 0);
        due("new cutBoxes", chart.cutBoxes(10), 0);
        due("new repeated", chart.repeated() == 0f ? 1 : 0, 1);
        due("new inbreeding", chart.inbreeding() == 0.0 ? 1 : 0, 1);
        due("new undoCount", chart.undoCount(), 0);
        due("new undo", chart.undo(), -1);
        due("new restoreSnapshot", chart.restoreSnapshot() ? 1 : 0, 0);
        due("new arrange", chart.arrange(), 0);
        due("new improve", chart.improve(5), 0);
        due("operations without persons are recorded", chart.undoCount(), 2);
        Checks.noElement("new person", () -> chart.person(0, 0));
        Checks.noElement("new boxes", () -> chart.boxes(0));
        Checks.noElement("new format", () -> chart.format(0, 0, 10));
    }

    private static void feed() {
        FamilyChart chart = new FamilyChart();
        due("feed", chart.feed(Checks.word("pers", 0), Checks.word("on a", 0), Checks.word("l 19", 0),
                Checks.word("00; ", 0), Checks.word("    ", 0)), 20);
        for (int i = 2; i <= 40; i++) {
            due("feed " + i, chart.feed(0x20202020, 0x20202020, 0x20202020, 0x20202020, 0x20202020), 20 * i);
        }
        due("feed over 800", chart.feed(-1, -1, -1, -1, -1), -1);
        due("load of all", chart.load(800), 1);
        due("feed after load", chart.feed(0, 0, 0, 0, 0), 20);
        FamilyChart signs = new FamilyChart();
        signs.feed(0x200a20ff, 0, 0, 0, 0);
        due("a byte above 127", signs.load(20), -11);
        due("its position", signs.errorPosition(), 3);
    }

    private static void load() {
        FamilyChart chart = new FamilyChart();
        due("load", Checks.load(chart, Texts.FAMILY), 5);
        due("load without blanks", Checks.load(chart, "person\nal1900;person bo0000002100;union al bo0;"), 2);
        due("year of leading zeros", chart.person(1, 0), 2100);
        due("keywords are names", Checks.load(chart, "person union 1;person person 2;union person union 3;"), 2);
        due("partner named person", chart.union(0, 0), 1);
        due("load 0", chart.load(0), 0);
        due("rows of nobody", chart.count(2), 0);
        due("load of blanks", Checks.load(chart, " \n "), 0);
        due("16 persons", Checks.load(chart, Texts.persons(16)), 16);
        due("12 unions", Checks.load(chart, Texts.persons(13) + Texts.unions(12)), 13);
        due("12 unions are there", chart.count(1), 12);
        due("8 letters", Checks.load(chart, "person abcdefgh 1;"), 1);
        due("names of one beginning", Checks.load(chart, "person az 1;person z 1;person aza 1;union z aza 1 az;"), 3);
        due("partner z", chart.union(0, 0), 1);
        due("partner aza", chart.union(0, 1), 2);
        chart.feed(0, 0, 0, 0, 0);
        Checks.badArgument("load -1", () -> chart.load(-1));
        Checks.badArgument("load 21", () -> chart.load(21));
        Checks.badArgument("load max", () -> chart.load(MAX));
        due("the buffer is as before", chart.feed(0, 0, 0, 0, 0), 40);
        due("load of a part", chart.load(1), -11);
        due("the buffer is empty", chart.feed(0, 0, 0, 0, 0), 20);
    }

    private static void loadReplaces() {
        FamilyChart chart = Checks.chartOf(Texts.FAMILY);
        chart.saveSnapshot();
        chart.swap(0, 0, 1);
        due("load with an error", Checks.load(chart, "person al"), -11);
        due("undo is kept after an error", chart.undoCount(), 1);
        due("order is kept after an error", chart.place(0), 1);
        due("persons are kept after an error", chart.count(0), 5);
        due("snapshot is kept after an error", chart.restoreSnapshot() ? 1 : 0, 1);
        chart.swap(0, 0, 1);
        due("load", Checks.load(chart, Texts.FAMILY), 5);
        due("undo is discarded", chart.undoCount(), 0);
        due("snapshot is discarded", chart.restoreSnapshot() ? 1 : 0, 0);
        due("plain order", chart.place(0), 0);
    }

    private static void textError(String text, int code, int position) {
        FamilyChart chart = new FamilyChart();
        due("load of " + text, Checks.load(chart, text), -10 - code);
        due("error position of " + text, chart.errorPosition(), position);
        due("persons after " + text, chart.count(0), 0);
    }

    private static void textErrors() {
        textError("people al 1;", 1, 0);
        textError("  ;", 1, 2);
        textError("person", 1, 6);
        textError("person  ", 1, 8);
        textError("person 5", 1, 7);
        textError("person abcdefghi 1;", 1, 7);
        textError("person al;", 1, 9);
        textError("person al 5", 1, 11);
        textError("person al 5,", 1, 11);
        textError("person Al 5;", 1, 7);
        textError("person al -5;", 1, 10);
        textError("person al 2101;", 2, 10);
        textError("person al 99999999999999999999;", 2, 10);
        textError("person al 4294967296;", 2, 10);
        textError(Texts.persons(16) + "person", 3, 11 * 16);
        textError(Texts.persons(14) + Texts.unions(12) + "union", 3, 11 * 14 + 12 * 12);
        textError("person al 1;person al 2;", 4, 19);
        String two = "person al 1;person bo 1;";
        textError(two + "union", 1, 29);
        textError(two + "union 5", 1, 30);
        textError(two + "union xx", 4, 30);
        textError(two + "union abcdefghijk", 4, 30);
        textError(two + "union al;", 1, 32);
        textError(two + "union al person", 4, 33);
        textError(two + "union al al 5;", 5, 33);
        textError(two + "union al bo;", 1, 35);
        textError(two + "union al bo 2101", 2, 36);
        textError(two + "union al bo 5", 1, 37);
        textError(two + "union al bo 5 6", 1, 38);
        textError(two + "union al bo 5 cy", 4, 38);
        textError(two + "union al bo 5 al", 5, 38);
        textError(two + "union al bo 5 bo", 5, 38);
        textError(two + "union al bo 5;union bo al 5;", 5, 47);
        String three = two + "person cy 1;";
        textError(three + "union al bo 5 cy cy;", 5, 53);
        textError(three + "union al bo 5 cy;union cy al 5 bo;", 5, 67);
        textError(three + "union al bo 5 cy;union bo cy 5 al;", 5, 67);
        textError(three + "person di 1;union al bo 5 cy;union al di 5 cy;", 5, 79);
    }

    private static void errorPosition() {
        FamilyChart chart = new FamilyChart();
        Checks.load(chart, "person");
        due("position", chart.errorPosition(), 6);
        Checks.badArgument("load 900", () -> chart.load(900));
        due("position after an exception", chart.errorPosition(), 6);
        due("query", Checks.query(chart, "many year=0"), 0);
        due("position after a good query", chart.errorPosition(), -1);
        due("query", Checks.query(chart, "many ye=0"), -1000000001);
        due("position after a bad query", chart.errorPosition(), 5);
        Checks.badArgument("query 900", () -> chart.query(900));
        due("position after an exception", chart.errorPosition(), 5);
        Checks.load(chart, "person al 1;");
        due("position after a good load", chart.errorPosition(), -1);
    }

    private static void count() {
        FamilyChart chart = Checks.chartOf(Texts.CROSSED);
        int[] want = {7, 3, 2, 8, 1, 5, 3};
        for (int what = 0; what < want.length; what++) {
            due("count " + what, chart.count(what), want[what]);
        }
        for (int what : new int[] {-1, 7, MIN, MAX}) {
            due("count " + what, chart.count(what), -1);
        }
        due("rows of a ladder", Checks.chartOf(Texts.ladder()).count(2), 13);
        due("references of a ladder", Checks.chartOf(Texts.ladder()).count(4), 11);
    }

    private static void person() {
        FamilyChart chart = Checks.chartOf(Texts.FAMILY + "person otto 7;");
        int[][] want = {{1900, 0, -1, 1, 2}, {1901, 0, -1, 1, 2}, {1930, 1, 0, 1, 2}, {1932, 1, 0, 1, 2},
                {1960, 2, 1, 0, 2}, {7, 0, -1, 0, 4}};
        for (int person = 0; person < 6; person++) {
            for (int what = 0; what < 5; what++) {
                due("person " + person + " " + what, chart.person(person, what), want[person][what]);
            }
        }
        for (int wrong : new int[] {-1, 6, MIN, MAX}) {
            Checks.noElement("person " + wrong, () -> chart.person(wrong, 0));
        }
        for (int wrong : new int[] {-1, 5, MIN, MAX}) {
            Checks.noElement("person 0 " + wrong, () -> chart.person(0, wrong));
        }
    }

    private static void union() {
        FamilyChart chart = Checks.chartOf(Texts.CROSSED);
        // Row 1 begins with x, 11 - 1, below the middle of c and d; y and r follow.
        int[][] want = {{2, 3, 10, 0, 1, 5, 11}, {0, 1, 11, 0, 1, 1, 3}, {4, 6, 12, 1, 0, 3, 17}};
        for (int union = 0; union < 3; union++) {
            for (int what = 0; what < 7; what++) {
                due("union " + union + " " + what, chart.union(union, what), want[union][what]);
            }
        }
        chart.swap(0, 0, 4);
        due("middle after swap", chart.union(1, 5), 5);
        for (int wrong : new int[] {-1, 3, MIN, MAX}) {
            Checks.noElement("union " + wrong, () -> chart.union(wrong, 0));
        }
        for (int wrong : new int[] {-1, 7, MIN, MAX}) {
            Checks.noElement("union 0 " + wrong, () -> chart.union(0, wrong));
        }
    }

    private static void lineage() {
        FamilyChart chart = Checks.chartOf(Texts.FAMILY);
        due("children 0", chart.children(0), 12);
        due("children 1", chart.children(1), 16);
        due("ancestors 4", chart.ancestors(4), 15);
        due("ancestors 2", chart.ancestors(2), 3);
        due("ancestors 0", chart.ancestors(0), 0);
        due("descendants 0", chart.descendants(0), 28);
        due("descendants 3", chart.descendants(3), 16);
        due("descendants 4", chart.descendants(4), 0);
        chart.marry(0, 4, 1);
        due("children of none", chart.children(2), 0);
        for (int wrong : new int[] {-1, 5, MIN, MAX}) {
            Checks.noElement("children " + wrong, () -> chart.children(wrong));
            Checks.noElement("ancestors " + wrong, () -> chart.ancestors(wrong));
            Checks.noElement("descendants " + wrong, () -> chart.descendants(wrong));
        }
        due("ancestors on a ladder", Checks.chartOf(Texts.ladder()).ancestors(13), (1 << 13) - 1);
        due("descendants on a ladder", Checks.chartOf(Texts.ladder()).descendants(0), (1 << 14) - 4);
    }

    private static void kinship() {
        FamilyChart chart = Checks.chartOf(Texts.FAMILY);
        due("with oneself", chart.kinship(0, 0), 1L << 39);
        due("siblings", chart.kinship(2, 3), 1L << 38);
        due("siblings", chart.kinship(3, 2), 1L << 38);
        due("parent", chart.kinship(0, 2), 1L << 38);
        due("strangers", chart.kinship(0, 1), 0);
        due("a child of siblings", chart.kinship(4, 4), (1L << 39) + (1L << 37));
        due("with a parent of these", chart.kinship(4, 2), (3L << 37));
        FamilyChart cousins = Checks.chartOf("person a 1;person b 1;person c 1;person d 1;person e 1;person f 1;"
                + "person g 1;person h 1;person i 1;person j 1;union a b 1 c d;union c e 1 f;union d g 1 h;"
                + "union a e 1 i;union j c 1;");
        due("cousins", cousins.kinship(5, 7), 1L << 36);
        due("half siblings", cousins.kinship(8, 2), 1L << 37);
        due("uncle", cousins.kinship(3, 5), 1L << 37);
        due("a spouse", cousins.kinship(9, 2), 0);
        // The finest part that 12 unions reach: the chain of a and its line through unrelated spouses.
        FamilyChart line = Checks.chartOf("person a 1;person b 1;person c 1;person d 1;person e 1;person f 1;"
                + "person g 1;person h 1;union a b 1 c;union c b 1 d;union d b 1 e;union e b 1 f;union f b 1 g;"
                + "union g b 1 h;");
        due("six steps down", line.kinship(0, 7), 1L << 33);
        for (int wrong : new int[] {-1, 5, MIN, MAX}) {
            Checks.noElement("kinship " + wrong, () -> chart.kinship(wrong, 0));
            Checks.noElement("kinship with " + wrong, () -> chart.kinship(0, wrong));
        }
    }

    private static void relations() {
        FamilyChart chart = Checks.chartOf(Texts.FAMILY + "person otto 7;");
        due("distance", chart.distance(4, 0), 2);
        due("distance of spouses", chart.distance(0, 1), 2);
        due("distance to oneself", chart.distance(3, 3), 0);
        due("distance to nobody's kin", chart.distance(5, 0), -1);
        due("distance of siblings", chart.distance(2, 3), 2);
        due("linesTo", chart.linesTo(4, 0), 2);
        due("linesTo oneself", chart.linesTo(4, 4), 1);
        due("linesTo a descendant", chart.linesTo(0, 4), 0);
        due("linesTo a sibling", chart.linesTo(2, 3), 0);
        due("nearest of siblings", chart.nearestAncestor(2, 3), 0);
        due("nearest with a parent", chart.nearestAncestor(3, 4), 3);
        due("nearest with oneself", chart.nearestAncestor(1, 1), 1);
        due("nearest of spouses", chart.nearestAncestor(0, 1), -1);
        FamilyChart deep = Checks.chartOf(Texts.ladder());
        due("linesTo on a ladder", deep.linesTo(13, 0), 144);
        due("distance on a ladder", deep.distance(13, 0), 7);
        due("nearest on a ladder", deep.nearestAncestor(13, 12), 12);
        FamilyChart single = Checks.chartOf("person a 1;person b 1;person c 1;person d 1;union a b 1;union a c 1 d;");
        due("a union without children is no step", single.distance(1, 3), -1);
        for (int wrong : new int[] {-1, 6, MIN, MAX}) {
            Checks.noElement("distance " + wrong, () -> chart.distance(wrong, 0));
            Checks.noElement("distance to " + wrong, () -> chart.distance(0, wrong));
            Checks.noElement("linesTo of " + wrong, () -> chart.linesTo(wrong, 0));
            Checks.noElement("linesTo " + wrong, () -> chart.linesTo(0, wrong));
            Checks.noElement("nearest of " + wrong, () -> chart.nearestAncestor(wrong, 0));
            Checks.noElement("nearest with " + wrong, () -> chart.nearestAncestor(0, wrong));
        }
    }

    private static void collapse() {
        FamilyChart chart = Checks.chartOf(Texts.FAMILY);
        due("collapse 1", chart.collapse(4, 1), 0);
        due("collapse 2", chart.collapse(4, 2), 2);
        due("collapse 3", chart.collapse(4, 3), 0);
        due("collapse 15", chart.collapse(4, 15), 0);
        due("collapse of a root", chart.collapse(0, 1), 0);
        // Six steps lead from n to the persons a to h in all, in 64 ways.
        due("collapse on a ladder", Checks.chartOf(Texts.ladder()).collapse(13, 6), 64 - 7);
        for (int wrong : new int[] {0, 16, -1, MIN, MAX}) {
            Checks.badArgument("collapse by " + wrong, () -> chart.collapse(4, wrong));
            Checks.noElement("collapse, the person first", () -> chart.collapse(5, wrong));
        }
        Checks.noElement("collapse of -1", () -> chart.collapse(-1, 1));
    }

    private static void boxes() {
        FamilyChart chart = Checks.chartOf(Texts.CROSSED);
        due("boxes 0", chart.boxes(0), 5);
        due("boxes 1", chart.boxes(1), 3);
        int[][] want = {{5, -1, 10, 3}, {6, -1, 14, 3}, {4, 2, 18, 3}};
        for (int place = 0; place < 3; place++) {
            for (int what = 0; what < 4; what++) {
                due("box " + place + " " + what, chart.box(1, place, what), want[place][what]);
            }
        }
        due("place 4", chart.place(4), 4);
        due("place 6", chart.place(6), 1);
        for (int wrong : new int[] {-1, 2, MIN, MAX}) {
            Checks.noElement("boxes " + wrong, () -> chart.boxes(wrong));
            Checks.noElement("box in " + wrong, () -> chart.box(wrong, 0, 0));
        }
        for (int wrong : new int[] {-1, 3, MIN, MAX}) {
            Checks.noElement("box at " + wrong, () -> chart.box(1, wrong, 0));
        }
        for (int wrong : new int[] {-1, 4, MIN, MAX}) {
            Checks.noElement("box 0 " + wrong, () -> chart.box(1, 0, wrong));
        }
        for (int wrong : new int[] {-1, 7, MIN, MAX}) {
            Checks.noElement("place " + wrong, () -> chart.place(wrong));
        }
        // References stand behind the main boxes, by unions, and for the lesser partner alone.
        FamilyChart both = Checks.chartOf("person a 1;person b 1;person c 1;person d 1;person e 1;union a b 1 c;"
                + "union d c 1;union c e 1;union d e 1;");
        due("references", both.count(4), 2);
        due("first reference", both.box(1, 1, 0), 3);
        due("second reference", both.box(1, 2, 0), 4);
        due("its union", both.box(1, 2, 1), 2);
        due("a union of one level has none", both.union(3, 5), 2 + 3);
    }

    private static void columns() {
        FamilyChart odd = Checks.chartOf("person abe 1;person eve 1;person kid 1;person long 1;union abe eve 1 kid;");
        due("middle column", odd.union(0, 6), (2 + 8) / 2);
        due("an odd box under its parents", odd.box(1, 0, 2), 3);
        FamilyChart left = Checks.chartOf("person a 1;person b 1;person abcdefgh 1;union a b 1 abcdefgh;");
        due("no box begins ahead of 0", left.box(1, 0, 2), 0);
        FamilyChart narrow = Checks.chartOf("person ab 1;person b 1;person c 1;union ab b 1 c;");
        due("a middle column is rounded down", narrow.union(0, 6), (2 + 6) / 2);
        FamilyChart half = Checks.chartOf("person a 1;person bc 1;person d 1;union a bc 1 d;");
        due("a middle column is rounded down", half.union(0, 6), 3);
        due("the box under it", half.box(1, 0, 2), 2);
    }

    private static void crossings() {
        FamilyChart four = Checks.chartOf("person a 1;person b 1;person c 1;person d 1;union a c 5;union b d 6;");
        due("crossed", four.crossingsOf(0, false), 1);
        due("none below", four.crossingsOf(0, true), 0);
        due("all", four.crossings(), 1);
        due("if swapped", four.crossingsIf(0, 1, 2), 0);
        due("if one is swapped with itself", four.crossingsIf(0, 3, 3), 1);
        due("as before", four.crossings(), 1);
        due("not recorded", four.undoCount(), 0);
        FamilyChart nested = Checks.chartOf("person a 1;person b 1;person c 1;person d 1;union a d 5;union b c 6;"
                + "union a b 7;union a c 8;");
        due("nested, and from one box", nested.crossings(), 0);
        FamilyChart chart = Checks.chartOf(Texts.CROSSED);
        due("in row 0", chart.crossingsOf(0, false), 0);
        due("below row 0", chart.crossingsOf(0, true), 1);
        due("in row 1", chart.crossingsOf(1, false), 0);
        due("below row 1", chart.crossingsOf(1, true), 0);
        due("if children are swapped", chart.crossingsIf(1, 0, 1), 0);
        due("if parents are nested, their middles equal", chart.crossingsIf(0, 0, 2), 0);
        due("if the parents are crossed", chart.crossingsIf(0, 1, 2), 1 + 1);
        FamilyChart equal = Checks.chartOf("person a 1;person b 1;person c 1;person d 1;person e 1;person f 1;"
                + "union b c 1 f;union a d 1 e;");
        due("equal middles do not cross", equal.crossings(), 0);
        for (int wrong : new int[] {-1, 2, MIN, MAX}) {
            Checks.noElement("crossingsOf " + wrong, () -> chart.crossingsOf(wrong, true));
            Checks.noElement("crossingsIf in " + wrong, () -> chart.crossingsIf(wrong, 0, 0));
        }
        for (int wrong : new int[] {-1, 3, MIN, MAX}) {
            Checks.noElement("crossingsIf of " + wrong, () -> chart.crossingsIf(1, wrong, 0));
            Checks.noElement("crossingsIf with " + wrong, () -> chart.crossingsIf(1, 0, wrong));
        }
    }

    private static void printing() {
        FamilyChart chart = Checks.chartOf(Texts.FAMILY);
        chart.marry(0, 4, 1);
        String[] want = {"[al] [bo]", "    a", "    a    a", "  [cy] [di]", "      b", "      b", "    [ed] (al)",
                "        c", ""};
        for (int line = 0; line < want.length; line++) {
            Checks.due("line " + line, Checks.printed(chart, line, 0, 200), want[line]);
        }
        due("width", chart.width(), 13);
        FamilyChart marks = Checks.chartOf(Texts.persons(5) + "union a e 1;union b d 1;union b e 1;union a d 1;");
        Checks.due("marks", Checks.printed(marks, 1, 0, 20), "       d abc");
        FamilyChart order = Checks.chartOf(Texts.persons(5) + "union b e 1;union a e 1;union b d 1;");
        Checks.due("a mark passes two others", Checks.printed(order, 1, 0, 20), "         bca");
        FamilyChart wide = Checks.chartOf("person abcdefgh 1;person hgfedcba 1;person x 1;union x abcdefgh 1;");
        Checks.due("boxes", Checks.printed(wide, 0, 0, 50), "[abcdefgh] [hgfedcba] [x]");
    }

    private static void strips() {
        FamilyChart chart = Checks.chartOf(Texts.FAMILY);
        due("width", chart.width(), 11);
        due("strips of 10", chart.strips(10), 2);
        due("strips of 11", chart.strips(11), 1);
        due("strips of 200", chart.strips(200), 1);
        due("cut by 10", chart.cutBoxes(10), 1);
        due("cut by 11", chart.cutBoxes(11), 0);
        Checks.due("strip 0", Checks.printed(chart, 3, 0, 10), "  [cy] [di");
        Checks.due("strip 1", Checks.printed(chart, 3, 1, 10), "]");
        due("a line that ends ahead", chart.format(0, 1, 10), 0);
        due("its text", chart.formattedByte(0), -1);
        due("a far strip", chart.format(3, MAX, 200), 0);
        due("a strip that would wrap around", chart.format(3, 1 << 29, 16), 0);
        FamilyChart gap = Checks.chartOf(Texts.persons(8) + "union a b 1;union g h 1;");
        Checks.due("blanks ahead of a later byte", Checks.printed(gap, 1, 0, 10), "   a      ");
        due("a strip of blanks alone", gap.format(1, 1, 10), 10);
        Checks.due("the last strip", Checks.printed(gap, 1, 2, 10), "       b");
        Checks.due("printed in one", Checks.printed(gap, 1, 0, 30), "   a                       b");
        gap.format(1, 0, 10);
        gap.swap(0, 0, 7);
        due("the text as it was then", gap.formattedByte(3), 'a');
        Checks.load(gap, "");
        due("the text as it was then, after load", gap.formattedByte(3), 'a');
        Checks.noElement("format", () -> gap.format(0, 0, 10));
        due("the text after an exception", gap.formattedByte(3), 'a');
        for (int index : new int[] {-1, 10, MIN, MAX}) {
            due("byte " + index, gap.formattedByte(index), -1);
        }
        for (int wrong : new int[] {9, 201, 0, -10, MIN, MAX}) {
            Checks.badArgument("format " + wrong, () -> chart.format(0, 0, wrong));
            Checks.badArgument("strips " + wrong, () -> chart.strips(wrong));
            Checks.badArgument("cutBoxes " + wrong, () -> chart.cutBoxes(wrong));
            Checks.noElement("format, the strip first", () -> chart.format(0, -1, wrong));
            Checks.noElement("format, the line first", () -> chart.format(9, 0, wrong));
        }
        for (int wrong : new int[] {-1, 9, MIN, MAX}) {
            Checks.noElement("format line " + wrong, () -> chart.format(wrong, 0, 10));
        }
        Checks.noElement("format strip", () -> chart.format(0, MIN, 10));
    }

    // Each call on an object of its own: none may need another one to have told the columns.
    private static void columnsAtOnce() {
        due("width at once", Checks.chartOf(Texts.FAMILY).width(), 11);
        due("strips at once", Checks.chartOf(Texts.FAMILY).strips(10), 2);
        due("cutBoxes at once", Checks.chartOf(Texts.FAMILY).cutBoxes(10), 1);
        due("format at once", Checks.chartOf(Texts.FAMILY).format(6, 0, 10), 8);
        due("box at once", Checks.chartOf(Texts.FAMILY).box(2, 0, 2), 4);
        due("union at once", Checks.chartOf(Texts.FAMILY).union(1, 6), 6);
        FamilyChart chart = Checks.chartOf("person abcdefgh 1;person b 1;person c 1;union b c 1;");
        due("a mark ahead of swap", chart.format(1, 0, 50), 15);
        chart.swap(0, 0, 2);
        due("a mark after swap", chart.format(1, 0, 50), 4);
        due("cut after swap", chart.cutBoxes(10), 1);
        chart.undo();
        due("cut after undo", chart.cutBoxes(10), 0);
    }

    private static void shares() {
        FamilyChart chart = Checks.chartOf(Texts.FAMILY);
        due("no references", Float.floatToIntBits(chart.repeated()), Float.floatToIntBits(0f));
        due("inbreeding", Double.doubleToLongBits(chart.inbreeding()), Double.doubleToLongBits(0.25));
        chart.marry(0, 4, 1);
        due("one of six", Float.floatToIntBits(chart.repeated()), Float.floatToIntBits(1f / 6f));
        // 0, then 2^38 of the siblings, then 2^38 of al and ed, the child of both of his own children.
        double all = (double) (1L << 39) / (double) (3L << 39);
        due("of three", Double.doubleToLongBits(chart.inbreeding()), Double.doubleToLongBits(all));
    }

    private static void marry() {
        FamilyChart chart = Checks.chartOf(Texts.FAMILY);
        chart.swap(0, 0, 1);
        due("marry", chart.marry(0, 4, 2100), 2);
        due("first partner", chart.union(2, 0), 0);
        due("second partner", chart.union(2, 1), 4);
        due("year", chart.union(2, 2), 2100);
        due("level", chart.union(2, 3), 2);
        due("plain order again", chart.place(0), 0);
        due("married", chart.marry(4, 0, 1), -2);
        due("oneself", chart.marry(3, 3, 1), -2);
        due("not recorded", chart.undoCount(), 2);
        for (int wrong : new int[] {-1, 2101, MIN, MAX}) {
            Checks.badArgument("marry in " + wrong, () -> chart.marry(0, 2, wrong));
            Checks.badArgument("marry oneself in " + wrong, () -> chart.marry(2, 2, wrong));
            Checks.noElement("marry, the person first", () -> chart.marry(5, 2, wrong));
            Checks.noElement("marry, the other first", () -> chart.marry(2, -1, wrong));
        }
        for (int wrong : new int[] {-1, 5, MIN, MAX}) {
            Checks.noElement("marry of " + wrong, () -> chart.marry(wrong, 0, 1));
            Checks.noElement("marry with " + wrong, () -> chart.marry(0, wrong, 1));
        }
        FamilyChart full = Checks.chartOf(Texts.persons(14) + Texts.unions(12));
        due("13th union", full.marry(0, 13, 1), -3);
        due("13th union of a pair", full.marry(1, 0, 1), -2);
        due("13th union with oneself", full.marry(1, 1, 1), -2);
        due("unions", full.count(1), 12);
        due("not recorded", full.undoCount(), 0);
        FamilyChart last = Checks.chartOf(Texts.persons(14) + Texts.unions(11));
        due("12th union", last.marry(0, 13, 0), 11);
    }

    private static void adoptAndRelease() {
        FamilyChart chart = Checks.chartOf(Texts.FAMILY + "person otto 7;");
        chart.swap(0, 0, 1);
        due("adopt", chart.adopt(1, 5), 2);
        due("parents", chart.person(5, 2), 1);
        due("children", chart.children(1), 48);
        due("plain order again", chart.place(0), 0);
        due("adopt again", chart.adopt(0, 5), -2);
        due("adopt a partner with parents", chart.adopt(1, 3), -2);
        due("adopt an ancestor", chart.adopt(1, 0), -3);
        due("adopt a partner", chart.adopt(0, 1), -3);
        due("not recorded", chart.undoCount(), 2);
        chart.swap(0, 0, 1);
        due("release", chart.release(2), 0);
        due("plain order again", chart.place(0), 0);
        due("release again", chart.release(2), -2);
        due("release a root", chart.release(0), -2);
        due("not recorded", chart.undoCount(), 4);
        due("generation of the released", chart.person(2, 1), 0);
        due("generation of the child", chart.person(4, 1), 2);
        due("a reference of the released", chart.box(1, 1, 1), 1);
        due("adopt into another union", chart.adopt(1, 0), -3);
        due("release the other too", chart.release(3), 0);
        due("generation of the child", chart.person(4, 1), 1);
        due("no ancestor any more", chart.adopt(1, 0), 1);
        Checks.noElement("adopt into 2", () -> chart.adopt(2, 1));
        Checks.noElement("adopt into -1", () -> chart.adopt(-1, 1));
        Checks.noElement("adopt 6", () -> chart.adopt(0, 6));
        Checks.noElement("adopt -1", () -> chart.adopt(0, -1));
        Checks.noElement("release 6", () -> chart.release(6));
        Checks.noElement("release -1", () -> chart.release(MIN));
        due("not recorded", chart.undoCount(), 6);
    }

    private static void swap() {
        FamilyChart chart = Checks.chartOf(Texts.CROSSED);
        due("swap", chart.swap(1, 0, 1), 0);
        due("place", chart.place(6), 0);
        due("swap with itself", chart.swap(1, 2, 2), 0);
        due("both recorded", chart.undoCount(), 2);
        due("swap far", chart.swap(1, 0, 2), 1);
        due("a reference box moved", chart.box(1, 0, 1), 2);
        for (int wrong : new int[] {-1, 2, MIN, MAX}) {
            Checks.noElement("swap in " + wrong, () -> chart.swap(wrong, 0, 0));
        }
        for (int wrong : new int[] {-1, 3, MIN, MAX}) {
            Checks.noElement("swap of " + wrong, () -> chart.swap(1, wrong, 0));
            Checks.noElement("swap with " + wrong, () -> chart.swap(1, 0, wrong));
        }
        due("not recorded", chart.undoCount(), 3);
    }

    private static void improve() {
        FamilyChart chart = Checks.chartOf(Texts.CROSSED);
        due("improve by none", chart.improve(0), 0);
        due("crossings", chart.crossings(), 1);
        due("improve", chart.improve(5), 1);
        due("crossings", chart.crossings(), 0);
        due("improve again", chart.improve(1), 0);
        due("all recorded", chart.undoCount(), 3);
        due("places are kept in row 0", chart.place(0), 0);
        for (int wrong : new int[] {-1, 6, MIN, MAX}) {
            Checks.badArgument("improve " + wrong, () -> chart.improve(wrong));
        }
        due("not recorded", chart.undoCount(), 3);
        // The first round can only put c ahead of b, the second one then c ahead of a.
        String two = Texts.persons(5) + "union a d 1;union b d 1;union c e 1;";
        FamilyChart once = Checks.chartOf(two);
        due("crossings", once.crossings(), 2);
        due("one round", once.improve(1), 1);
        due("crossings after a round", once.crossings(), 1);
        FamilyChart twice = Checks.chartOf(two);
        due("two rounds", twice.improve(2), 2);
        due("crossings after two rounds", twice.crossings(), 0);
        due("c first", twice.place(2), 0);
        FamilyChart often = Checks.chartOf(two);
        due("five rounds", often.improve(5), 2);
        due("one operation", often.undoCount(), 1);
        due("undo", often.undo(), 0);
        due("crossings again", often.crossings(), 2);
    }

    private static void arrange() {
        FamilyChart chart = Checks.chartOf(Texts.CROSSED);
        due("arrange", chart.arrange(), 0);
        due("y first", chart.place(6), 0);
        due("then the reference of r", chart.box(1, 1, 1), 2);
        due("x last", chart.place(5), 2);
        due("row 0 as it was", chart.box(0, 0, 0), 0);
        due("arrange again", chart.arrange(), 0);
        due("both recorded", chart.undoCount(), 2);
        FamilyChart stable = Checks.chartOf(Texts.persons(5) + "union a b 1 c d e;");
        stable.swap(1, 0, 2);
        due("arrange equal keys", stable.arrange(), 0);
        due("they keep their order", stable.place(4), 0);
        // The rows below follow the row above as it is arranged then.
        FamilyChart three = Checks.chartOf("person a 1;person b 1;person c 1;person d 1;person e 1;person f 1;"
                + "person g 1;person h 1;person i 1;person j 1;union c d 1 e f;union a b 1 g h;union e f 1 i;"
                + "union g h 1 j;");
        due("crossings ahead", three.crossings(), 4);
        due("arrange", three.arrange(), 0);
        due("j first", three.place(9), 0);
    }

    private static void plain() {
        FamilyChart chart = Checks.chartOf(Texts.CROSSED);
        chart.arrange();
        chart.swap(0, 0, 4);
        chart.plain();
        due("row 0", chart.place(0), 0);
        due("row 1", chart.place(5), 0);
        chart.plain();
        due("recorded", chart.undoCount(), 4);
    }

    private static void undo() {
        FamilyChart chart = Checks.chartOf(Texts.FAMILY + "person otto 7;");
        chart.swap(0, 0, 2);
        chart.marry(5, 4, 3);
        chart.adopt(0, 5);
        chart.release(2);
        chart.plain();
        due("undo plain", chart.undo(), 4);
        due("undo release", chart.undo(), 3);
        due("parents again", chart.person(2, 2), 0);
        due("generation again", chart.person(4, 1), 2);
        due("undo adopt", chart.undo(), 2);
        due("no parents again", chart.person(5, 2), -1);
        due("reference box again", chart.box(2, 1, 0), 5);
        due("undo marry", chart.undo(), 1);
        due("unions again", chart.count(1), 2);
        due("order as before marry", chart.place(5), 0);
        due("undo swap", chart.undo(), 0);
        due("plain order", chart.place(5), 2);
        due("nothing to undo", chart.undo(), -1);
        for (int i = 0; i < 12; i++) {
            chart.swap(0, 0, 1);
            chart.swap(0, 1, 2);
        }
        due("ten at most", chart.undoCount(), 10);
        for (int i = 9; i >= 0; i--) {
            due("undo", chart.undo(), i);
        }
        due("no more", chart.undo(), -1);
        // 14 swaps stand, seven turns of three boxes: as after one turn.
        due("place after 14 swaps", chart.place(0), 2);
        chart.plain();
        due("undo after undo", chart.undo(), 0);
        due("place after 14 swaps", chart.place(0), 2);
    }

    private static void snapshots() {
        FamilyChart chart = Checks.chartOf(Texts.FAMILY);
        due("no snapshot", chart.restoreSnapshot() ? 1 : 0, 0);
        chart.swap(0, 0, 1);
        due("undo is kept without a snapshot", chart.undoCount(), 1);
        chart.saveSnapshot();
        due("saving is not recorded", chart.undoCount(), 1);
        chart.marry(0, 4, 1);
        chart.release(4);
        due("restore", chart.restoreSnapshot() ? 1 : 0, 1);
        due("unions", chart.count(1), 2);
        due("parents", chart.person(4, 2), 1);
        due("order", chart.place(0), 1);
        due("undo is cleared", chart.undoCount(), 0);
        due("nothing to undo", chart.undo(), -1);
        chart.plain();
        due("restore again", chart.restoreSnapshot() ? 1 : 0, 1);
        due("order again", chart.place(0), 1);
        chart.undo();
        chart.marry(0, 4, 1);
        chart.saveSnapshot();
        chart.undo();
        due("another third union", chart.marry(3, 1, 9), 2);
        due("restore the third union", chart.restoreSnapshot() ? 1 : 0, 1);
        due("its first partner", chart.union(2, 0), 0);
        due("its second partner", chart.union(2, 1), 4);
        due("its year", chart.union(2, 2), 1);
        chart.swap(0, 0, 1);
        chart.plain();
        chart.saveSnapshot();
        chart.swap(0, 0, 1);
        chart.undo();
        chart.undo();
        due("order before", chart.place(0), 1);
        due("restore the later one", chart.restoreSnapshot() ? 1 : 0, 1);
        due("its order", chart.place(0), 0);
    }

    private static void asked(FamilyChart chart, String text, int want) {
        due(text, Checks.query(chart, text), want);
        due("error position of " + text, chart.errorPosition(), -1);
    }

    private static void query() {
        FamilyChart chart = Checks.chartOf(Texts.FAMILY);
        asked(chart, "many generation=0", 2);
        asked(chart, "many year<1932", 3);
        asked(chart, "many year>1932", 1);
        asked(chart, "first year>1901", 2);
        asked(chart, "first year>2000", -1);
        asked(chart, "many person>2", 2);
        asked(chart, "many 0<1", 5);
        asked(chart, "many 1<0", 0);
        asked(chart, "many 00000000000000001=1", 5);
        asked(chart, "many 99999>year", 5);
        asked(chart, "many unions=1", 4);
        asked(chart, "many children=2", 2);
        asked(chart, "many children=1", 2);
        asked(chart, "many ancestors=4", 1);
        asked(chart, "many descendants=3", 2);
        asked(chart, "many ancestors<descendants", 2);
        asked(chart, "first not generation=0", 2);
        asked(chart, "many person=0 or person=1 and person=2", 1);
        asked(chart, "many(person=0 or person=1)and person=1", 1);
        asked(chart, "many person=1 and person=2 or person=4", 1);
        asked(chart, "many not person=0 and person<2", 1);
        asked(chart, "many not(person=0 and person<2)", 4);
        asked(chart, "many not not person=0", 1);
        asked(chart, "many not not not not not not person=0", 1);
        asked(chart, "many((((((person=0))))))", 1);
        asked(chart, "many not(not(not(person=0)))and(((((person=0)))))", 0);
        asked(chart, "many not person=0 and not person=1 and not person=2 and not person=3 and not person=4 and "
                + "not person=5 and not person=6", 0);
        FamilyChart nobody = new FamilyChart();
        asked(nobody, "many 0=0", 0);
        asked(nobody, "first 0=0", -1);
        chart.feed(0, 0, 0, 0, 0);
        Checks.badArgument("query -1", () -> chart.query(-1));
        Checks.badArgument("query 21", () -> chart.query(21));
        Checks.badArgument("query min", () -> chart.query(MIN));
        for (int i = 0; i < 10; i++) {
            chart.feed(0, 0, 0, 0, 0);
        }
        Checks.badArgument("query 201", () -> chart.query(201));
        due("the buffer is as before", chart.feed(0, 0, 0, 0, 0), 240);
        due("query 200", chart.query(200), -1000000001);
        due("the buffer is empty", chart.feed(0, 0, 0, 0, 0), 20);
        due("query 0", chart.query(0), -1000000001);
        due("its position", chart.errorPosition(), 0);
        due("the chart is as before", chart.count(0), 5);
        due("queries are not recorded", chart.undoCount(), 0);
    }

    private static void queryError(String text, int code, int position) {
        FamilyChart chart = Checks.chartOf(Texts.FAMILY);
        due(text, Checks.query(chart, text), FamilyChart.HIDDEN - code);
        due("error position of " + text, chart.errorPosition(), position);
    }

    private static void queryErrors() {
        queryError("", 1, 0);
        queryError("  ", 1, 2);
        queryError("much year=0", 1, 0);
        queryError("many", 1, 4);
        queryError("many first year=0", 1, 5);
        queryError("many year", 1, 9);
        queryError("many year=", 1, 10);
        queryError("many year==0", 1, 10);
        queryError("many name=0", 1, 5);
        queryError("many year=0 year=0", 1, 12);
        queryError("many year=0)", 1, 11);
        queryError("many (year=0", 1, 12);
        queryError("many (year=0 and", 1, 16);
        queryError("many year=0 or or", 1, 15);
        queryError("many year=0 and and", 1, 16);
        queryError("many (year)=0", 1, 10);
        queryError("many not", 1, 8);
        queryError("many ()", 1, 6);
        queryError("many year=0;", 1, 11);
        queryError("many YEAR=0", 1, 5);
        queryError("many year=100000", 2, 10);
        queryError("many 4294967296=0", 2, 5);
        queryError("many year=0 100000", 1, 12);
        queryError("many not not not not not not not year=0", 3, 29);
        queryError("many (((((((year=0", 3, 11);
        queryError("many not(not(not(not", 3, 17);
        queryError("many not(not(not(year=0)))and((((((((", 3, 35);
    }

    public static void main(String[] args) {
        due("NONE", FamilyChart.NONE, -1);
        due("HIDDEN", FamilyChart.HIDDEN, -1000000000);
        newObject();
        feed();
        load();
        loadReplaces();
        textErrors();
        errorPosition();
        count();
        person();
        union();
        lineage();
        kinship();
        relations();
        collapse();
        boxes();
        columns();
        crossings();
        printing();
        strips();
        columnsAtOnce();
        shares();
        marry();
        adoptAndRelease();
        swap();
        improve();
        arrange();
        plain();
        undo();
        snapshots();
        query();
        queryErrors();
        Checks.end("PromisesTest");
    }
}
