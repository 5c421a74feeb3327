/**
 * The document from its first line to its last: the sentences that promise something and that the other files do
 * not quote. They tell the ordinary case mostly, and how the answers of several promises belong together.
 */
public final class DocumentTest {
    /** Three generations; the children of ada and bob stand behind those of cy and dot. */
    private static final String STORY = "person ada 1900;person bob 1902;person cy 1901;person dot 1903;"
            + "person eve 1930;person fay 1931;person gus 1933;person hal 1955;"
            + "union ada bob 1925 gus;union cy dot 1926 eve fay;union eve gus 1954 hal;";
    private static final int ADA = 0;
    private static final int HAL = 7;

    private static void due(String what, long got, long want) {
        Checks.due(what, got, want);
    }

    private static void dueLines(FamilyChart chart, String... want) {
        due("rows", chart.count(2) * 3L, want.length);
        for (int line = 0; line < want.length; line++) {
            Checks.due("line " + line, Checks.printed(chart, line, 0, 200), want[line]);
        }
    }

    private static Scene[] scenes() {
        return new Scene[] {Scene.empty(), Scene.of(Texts.persons(1)), Scene.of(STORY), Scene.of(Texts.FAMILY),
                Scene.of(Texts.CROSSED), Scene.rich(), Scene.full(), Scene.of(Texts.ladder()),
                Scene.of(Texts.ladderUpwards()), Scene.of(Texts.line()), Scene.of(Texts.zigzag()),
                Scene.of(Texts.widest()), Scene.of(Texts.zigzag()).swap(0, 0, 5).swap(1, 1, 4).swap(0, 3, 7),
                Scene.of(Texts.widest()).swap(1, 2, 20).swap(1, 5, 14).swap(0, 0, 1)};
    }

    private static void rowsOfGenerations() {
        FamilyChart chart = Checks.chartOf(STORY);
        dueLines(chart,
                "[ada] [bob] [cy] [dot]",
                "     a          b",
                "                b     b     a",
                "              [eve] [fay] [gus]",
                "                      c",
                "                      c",
                "                    [hal]",
                "",
                "");
        for (Scene scene : scenes()) {
            FamilyChart any = scene.chart();
            for (int person = 0; person < any.count(0); person++) {
                due("the box of " + person, any.box(any.person(person, 1), any.place(person), 0), person);
            }
        }
    }

    private static void appearsAgain() {
        FamilyChart chart = Checks.chartOf(STORY);
        due("ada marries hal", chart.marry(ADA, HAL, 1980), 3);
        due("generation of ada", chart.person(ADA, 1), 0);
        due("place of ada", chart.place(ADA), 0);
        due("boxes beside hal", chart.boxes(2), 2);
        due("who is there", chart.box(2, 1, 0), ADA);
        due("for which union", chart.box(2, 1, 1), 3);
        Checks.due("hal and ada", Checks.printed(chart, 6, 0, 200), "                    [hal] (ada)");
        Checks.due("their mark", Checks.printed(chart, 7, 0, 200), "                         d");
    }

    private static void crossAsLittle() {
        FamilyChart chart = Checks.chartOf(STORY);
        due("crossings", chart.crossings(), 2);
        due("a round", chart.improve(1), 1);
        due("crossings behind it", chart.crossings(), 1);
        due("more rounds", chart.improve(5), 1);
        due("crossings behind them", chart.crossings(), 0);
        dueLines(chart,
                "[ada] [bob] [cy] [dot]",
                "     a          b",
                "     a          b     b",
                "   [gus]      [eve] [fay]",
                "          c",
                "          c",
                "        [hal]",
                "",
                "");
        FamilyChart arranged = Checks.chartOf(STORY);
        due("arranged", arranged.arrange(), 0);
        due("gus is the first one", arranged.place(6), 0);
        for (Scene scene : scenes()) {
            FamilyChart any = scene.chart();
            int swaps = any.improve(1);
            for (int round = 0; round < 20 && swaps > 0; round++) {
                swaps = any.improve(1);
            }
            due("the last round", swaps, 0);
            due("pairs of neighbours with fewer crossings", betterPairs(any), 0);
        }
    }

    private static int betterPairs(FamilyChart chart) {
        int better = 0;
        int crossings = chart.crossings();
        for (int row = 0; row < chart.count(2); row++) {
            for (int place = 0; place + 1 < chart.boxes(row); place++) {
                if (chart.crossingsIf(row, place, place + 1) < crossings) {
                    better++;
                }
            }
        }
        return better;
    }

    private static void closeTogether() {
        for (Scene scene : scenes()) {
            for (int row = 0; row < scene.chart().count(2); row++) {
                FamilyChart chart = scene.chart();
                int end = -1;
                for (int place = 0; place < chart.boxes(row); place++) {
                    int begin = Math.max(end + 1, wanted(chart, row, place));
                    due("box " + place + " of row " + row, chart.box(row, place, 2), begin);
                    end = begin + chart.box(row, place, 3);
                }
            }
        }
    }

    private static int wanted(FamilyChart chart, int row, int place) {
        int parents = chart.person(chart.box(row, place, 0), 2);
        if (chart.box(row, place, 1) != FamilyChart.NONE || parents == FamilyChart.NONE) {
            return 0;
        }
        return Math.max(0, chart.union(parents, 6) - chart.box(row, place, 3) / 2);
    }

    private static void printedInStrips() {
        FamilyChart chart = Checks.chartOf(STORY);
        due("width", chart.width(), 31);
        due("strips", chart.strips(10), 4);
        due("boxes that are cut: bob, dot and gus", chart.cutBoxes(10), 3);
        String[][] want = {{"[ada] [bob", "] [cy] [do", "t]", ""}, {"     a    ", "      b", "", ""},
                {"          ", "      b   ", "  b     a", ""}, {"          ", "    [eve] ", "[fay] [gus", "]"},
                {"          ", "          ", "  c", ""}};
        for (int line = 0; line < want.length; line++) {
            for (int strip = 0; strip < 4; strip++) {
                Checks.due("strip " + strip + " of line " + line, Checks.printed(chart, line, strip, 10),
                        want[line][strip]);
            }
        }
    }

    private static void howRelated() {
        FamilyChart chart = Checks.chartOf(STORY);
        due("kinship of sisters", chart.kinship(4, 5), 1L << 38);
        due("kinship of fay and her nephew", chart.kinship(5, HAL), 1L << 37);
        due("kinship of spouses", chart.kinship(6, 4), 0);
        due("steps to the nephew", chart.distance(5, HAL), 3);
        due("steps between spouses with a child", chart.distance(6, 4), 2);
        due("lines from hal to ada", chart.linesTo(HAL, ADA), 1);
        due("the nearest ancestor of fay and hal", chart.nearestAncestor(5, HAL), 2);
        due("that of fay and gus", chart.nearestAncestor(5, 6), -1);
        due("ancestors of hal", chart.ancestors(HAL), 0b01011111);
        due("descendants of cy", chart.descendants(2), 0b10110000);
    }

    private static void nobodyIsOwnAncestor() {
        for (Scene scene : scenes()) {
            FamilyChart chart = scene.chart();
            int[] turned = new int[16];
            for (int person = 0; person < chart.count(0); person++) {
                int union = chart.person(person, 2);
                int want = union == FamilyChart.NONE ? 0
                        : lineage(chart, chart.union(union, 0)) | lineage(chart, chart.union(union, 1));
                due("ancestors of " + person, chart.ancestors(person), want);
                due("and not himself or herself", want >> person & 1, 0);
                for (int other = 0; other < turned.length; other++) {
                    turned[other] |= (want >> other & 1) << person;
                }
            }
            for (int person = 0; person < chart.count(0); person++) {
                due("descendants of " + person, chart.descendants(person), turned[person]);
            }
        }
    }

    private static int lineage(FamilyChart chart, int person) {
        return 1 << person | chart.ancestors(person);
    }

    // Tokens go on from one feed to the next one, and from one parameter to the next one.
    private static void fromByteBuffer() {
        for (int blanks = 0; blanks < 20; blanks++) {
            FamilyChart chart = new FamilyChart();
            due("load", Checks.load(chart, " ".repeat(blanks) + STORY), 8);
            due("the year of hal", chart.person(HAL, 0), 1955);
            due("the letters of hal", chart.person(HAL, 4), 3);
        }
    }

    private static void whatOperationsAre() {
        operation("marry", c -> c.marry(ADA, 5, 1));
        operation("adopt", c -> c.adopt(2, 8));
        operation("release", c -> c.release(5));
        operation("swap", c -> c.swap(0, 0, 3));
        operation("improve", c -> c.improve(2));
        operation("arrange", FamilyChart::arrange);
        operation("plain", c -> {
            c.plain();
            return 0;
        });
        Scene scene = told();
        due("undoCount", scene.chart().undoCount(), 2);
        for (Checks.Ask ask : others()) {
            FamilyChart chart = scene.chart();
            ask.of(chart);
            due("undoCount behind what is no operation", chart.undoCount(), 2);
        }
    }

    private static Scene told() {
        return Scene.of(STORY + "person ida 1;").swap(0, 1, 2).swap(1, 0, 1);
    }

    private static void operation(String what, Checks.Ask ask) {
        FamilyChart chart = told().chart();
        due(what, ask.of(chart) < 0 ? 1 : 0, 0);
        due("undoCount behind " + what, chart.undoCount(), 3);
        due("undo of " + what, chart.undo(), 2);
        Checks.due("what is left of " + what, told().portrait().firstChangeOfDrawing(
                told().then(ask).then(FamilyChart::undo).portrait()), "");
    }

    private static Checks.Ask[] others() {
        return new Checks.Ask[] {c -> c.feed(0, 0, 0, 0, 0), FamilyChart::errorPosition, c -> c.count(0),
                c -> c.person(0, 0), c -> c.union(0, 0), c -> c.children(0), c -> c.ancestors(0),
                c -> c.descendants(0), c -> c.kinship(0, 1), c -> c.distance(0, 1), c -> c.linesTo(0, 1),
                c -> c.nearestAncestor(0, 1), c -> c.collapse(0, 1), c -> c.boxes(0), c -> c.box(0, 0, 0),
                c -> c.place(0), FamilyChart::crossings, c -> c.crossingsOf(0, true), c -> c.crossingsIf(0, 0, 1),
                FamilyChart::width, c -> c.format(0, 0, 10), c -> c.formattedByte(0), c -> c.strips(10),
                c -> c.cutBoxes(10), c -> (long) c.repeated(), c -> (long) c.inbreeding(), FamilyChart::undoCount,
                c -> Checks.query(c, "many year=0"), c -> {
                    c.saveSnapshot();
                    return 0;
                }};
    }

    private static void noSuchValue() {
        due("NONE", FamilyChart.NONE, -1);
        due("the union of parents of ada", Checks.chartOf(STORY).person(ADA, 2), FamilyChart.NONE);
    }

    private static void errorResultsOfQuery() {
        due("HIDDEN", FamilyChart.HIDDEN, -1000000000);
        due("a query with an error", Checks.query(Checks.chartOf(STORY), "all"), FamilyChart.HIDDEN - 1);
    }

    private static void counts() {
        for (Scene scene : scenes()) {
            FamilyChart chart = scene.chart();
            int boxes = 0;
            int references = 0;
            for (int row = 0; row < chart.count(2); row++) {
                boxes += chart.boxes(row);
                for (int place = 0; place < chart.boxes(row); place++) {
                    references += chart.box(row, place, 1) == FamilyChart.NONE ? 0 : 1;
                }
            }
            due("boxes", chart.count(3), boxes);
            due("reference boxes", chart.count(4), references);
            int roots = 0;
            int leaves = 0;
            for (int person = 0; person < chart.count(0); person++) {
                roots += chart.person(person, 2) == FamilyChart.NONE ? 1 : 0;
                leaves += chart.descendants(person) == 0 ? 1 : 0;
            }
            due("persons without parents", chart.count(5), roots);
            due("persons without children", chart.count(6), leaves);
        }
    }

    private static void ancestorsMissing() {
        FamilyChart chart = Checks.chartOf(STORY);
        due("grandparents of hal", chart.collapse(HAL, 2), 0);
        FamilyChart siblings = Checks.chartOf(Texts.FAMILY);
        due("grandparents of a child of siblings", siblings.collapse(4, 2), 2);
    }

    private static void crossingsOfParts() {
        for (Scene scene : scenes()) {
            FamilyChart chart = scene.chart();
            int all = 0;
            for (int row = 0; row < chart.count(2); row++) {
                all += chart.crossingsOf(row, false) + chart.crossingsOf(row, true);
            }
            due("all parts together", chart.crossings(), all);
        }
    }

    private static void swappingWouldBring() {
        for (Scene scene : scenes()) {
            FamilyChart chart = scene.chart();
            for (int row = 0; row < Math.min(chart.count(2), 3); row++) {
                for (int place = 0; place + 1 < Math.min(chart.boxes(row), 9); place++) {
                    int last = chart.boxes(row) - 1;
                    int told = chart.crossingsIf(row, place, last);
                    int one = chart.box(row, place, 0);
                    int two = chart.box(row, last, 0);
                    due("swap " + place + " in " + row, chart.swap(row, place, last), told);
                    due("crossings", chart.crossings(), told);
                    due("who is at the one place", chart.box(row, place, 0), two);
                    due("who is at the other place", chart.box(row, last, 0), one);
                    chart.undo();
                }
            }
        }
    }

    private static void releasedChild() {
        FamilyChart chart = Checks.chartOf(STORY);
        due("release of eve", chart.release(4), 1);
        due("eve has no parents", chart.person(4, 2), FamilyChart.NONE);
        due("fay alone is left", chart.children(1), 1 << 5);
        due("eve is of the first generation", chart.person(4, 1), 0);
        due("hal has gus as a parent still", chart.person(HAL, 1), 2);
        due("eve stands beside gus", chart.box(1, 2, 1), 2);
        due("release of gus", chart.release(6), 0);
        due("nobody is left", chart.children(0), 0);
        due("hal is of the second generation", chart.person(HAL, 1), 1);
        due("rows", chart.count(2), 2);
    }

    private static void numberOfSwaps() {
        for (Scene scene : scenes()) {
            for (int rounds = 0; rounds <= 5; rounds++) {
                FamilyChart stepwise = scene.chart();
                int swaps = 0;
                for (int round = 0; round < rounds; round++) {
                    swaps += roundOf(stepwise);
                }
                FamilyChart chart = scene.chart();
                due("swaps in " + rounds + " rounds", chart.improve(rounds), swaps);
                sameOrder(chart, stepwise);
            }
        }
    }

    private static int roundOf(FamilyChart chart) {
        int swaps = 0;
        int crossings = chart.crossings();
        for (int row = 0; row < chart.count(2); row++) {
            int last = chart.boxes(row) - 1;
            for (int place = 0; place < last; place++) {
                if (chart.crossingsIf(row, place, place + 1) < crossings) {
                    crossings = chart.swap(row, place, place + 1);
                    swaps++;
                }
            }
        }
        return swaps;
    }

    private static void sameOrder(FamilyChart chart, FamilyChart want) {
        for (int person = 0; person < want.count(0); person++) {
            due("place of " + person, chart.place(person), want.place(person));
        }
    }

    private static void undoesMostRecent() {
        FamilyChart chart = Checks.chartOf(STORY);
        chart.swap(0, 0, 1);
        chart.swap(0, 2, 3);
        due("undo", chart.undo(), 1);
        due("the recent one is undone", chart.place(2), 2);
        due("the earlier one is not", chart.place(ADA), 1);
        due("undo", chart.undo(), 0);
        due("the earlier one is undone", chart.place(ADA), 0);
    }

    private static void firstLines() {
        Checks.sentence("A family chart: persons and their unions in rows of generations.",
                DocumentTest::rowsOfGenerations);
        Checks.sentence("Who marries somebody of a later generation appears there again as a reference",
                DocumentTest::appearsAgain);
        Checks.sentence("lines of unions and of descent cross as little as swapping can bring about",
                DocumentTest::crossAsLittle);
        Checks.sentence("boxes are put close together under their parents", DocumentTest::closeTogether);
        Checks.sentence("and the chart is printed in strips.", DocumentTest::printedInStrips);
        Checks.sentence("It also tells how people are related.", DocumentTest::howRelated);
    }

    private static void description() {
        Checks.sentence("Nobody is an ancestor of himself or herself (ancestors are the parents, their parents, and "
                + "so on; descendants are the other way round).", DocumentTest::nobodyIsOwnAncestor);
        Checks.sentence("The text comes from a byte buffer.", DocumentTest::fromByteBuffer);
        Checks.sentence("marry, adopt, release, swap, improve, arrange and plain are operations.",
                DocumentTest::whatOperationsAre);
        Checks.sentence("`NONE = -1`: There is no such value.", DocumentTest::noSuchValue);
        Checks.sentence("`HIDDEN = -1000000000`: Error results of query start here.",
                DocumentTest::errorResultsOfQuery);
    }

    private static void promises() {
        Checks.promise(5, "0 persons, 1 unions, 2 rows, 3 boxes, 4 reference boxes, 5 persons without parents, "
                + "6 persons without children", DocumentTest::counts);
        Checks.promise(15, "Returns how many ancestors are missing because persons are repeated.",
                DocumentTest::ancestorsMissing);
        Checks.promise(20, "Returns the crossings of a part of the chart.", DocumentTest::crossingsOfParts);
        Checks.promise(21, "Tells what swapping would bring about.", DocumentTest::swappingWouldBring);
        Checks.promise(31, "Operation: a person is no longer a child of the union of the parents.",
                DocumentTest::releasedChild);
        Checks.promise(32, "Operation: two boxes of a row are swapped.", DocumentTest::swappingWouldBring);
        Checks.promise(33, "Returns the number of swaps.", DocumentTest::numberOfSwaps);
        Checks.promise(37, "Undoes the most recent operation.", DocumentTest::undoesMostRecent);
    }

    public static void main(String[] args) {
        firstLines();
        description();
        promises();
        Checks.end("DocumentTest");
    }
}
