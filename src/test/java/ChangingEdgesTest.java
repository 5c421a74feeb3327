/** The boundary cases that promises 29 to 40 name, those of changing: each sentence has a test of its own. */
public final class ChangingEdgesTest {
    private static final int HIDDEN = -1000000000;
    private static final Scene RICH = Scene.rich();
    private static final Scene FULL = Scene.full();
    private static final Scene EMPTY = Scene.empty();
    // Six rounds find something to swap in this chart, and the seventh one nothing.
    private static final String SIX_ROUNDS = Texts.persons(13) + "union b f 1;union f c 1 h j;union e c 1 i k l;"
            + "union a b 1 m;union d l 1;union a f 1 g;union d b 1;";
    // g, h and i are children of the second, the third and the first pair of parents.
    private static final String TWO_ROUNDS = Texts.persons(9) + "union c d 1 g;union e f 1 h;union a b 1 i;";

    private interface OfOne {
        long of(FamilyChart chart, int number);
    }

    private static void due(String what, long got, long want) {
        Checks.due(what, got, want);
    }

    private static void refuseEach(String name, Scene scene, OfOne ask, long want, int... numbers) {
        for (int number : numbers) {
            Checks.refused(name + " of " + number, scene, c -> ask.of(c, number), want);
        }
    }

    private static void marryWithoutChildren() {
        for (int year : new int[] {0, 1, 2099, 2100}) {
            FamilyChart chart = RICH.then(c -> c.marry(1, 2, year)).chart();
            due("the year", chart.union(3, 2), year);
            due("children", chart.children(3), 0);
            due("their number", chart.union(3, 4), 0);
            due("the persons", chart.count(0), 6);
        }
    }

    private static void marryNumbers() {
        due("the number", RICH.chart().marry(1, 2, 0), 3);
        due("the first number", Checks.chartOf(Texts.persons(2)).marry(0, 1, 0), 0);
        due("the last number", Checks.chartOf(Texts.persons(13) + Texts.unions(11)).marry(15 - 3, 0, 0), 11);
        FamilyChart chart = Checks.chartOf(Texts.persons(16));
        for (int i = 0; i < 12; i++) {
            due("number " + i, chart.marry(15, i, i), i);
        }
        due("a thirteenth", chart.marry(15, 12, 12), -3);
        due("the unions then", chart.count(1), 12);
        due("undo of the twelfth", chart.undo(), 9);
        due("another twelfth", chart.marry(14, 13, 5), 11);
        due("its year", chart.union(11, 2), 5);
        due("its first partner", chart.union(11, 0), 14);
        due("no children", chart.union(11, 4), 0);
        Scene freed = RICH.then(c -> c.marry(1, 2, 3)).then(FamilyChart::undo);
        due("the same two behind undo", freed.chart().marry(2, 1, 4), 3);
    }

    private static void marryRefused() {
        refuseEach("marry oneself", RICH, (c, person) -> c.marry(person, person, 0), -2, 0, 1, 2, 3, 4, 5);
        Checks.refused("marry a partner", RICH, c -> c.marry(0, 1, 0), -2);
        Checks.refused("marry a partner the other way round", RICH, c -> c.marry(1, 0, 2100), -2);
        Checks.refused("marry the later partner", RICH, c -> c.marry(4, 0, 0), -2);
        refuseEach("marry at the limit", FULL, (c, person) -> c.marry(15, person, 0), -3, 0, 1, 12, 13, 14);
        Checks.refused("marry two of the twelve", FULL, c -> c.marry(1, 2, 0), -3);
    }

    private static void adoptIntoUnions() {
        due("into the last union", FULL.chart().adopt(11, 15), 1);
        due("its children", FULL.then(c -> c.adopt(11, 15)).chart().children(11), 1 << 15);
        due("into union 0", FULL.chart().adopt(0, 15), 1);
        due("its children", FULL.then(c -> c.adopt(0, 15)).chart().children(0), 1 << 15);
        due("the union of the parents", FULL.then(c -> c.adopt(0, 15)).chart().person(15, 2), 0);
    }

    private static void adoptGenerations() {
        due("the generation", RICH.chart().adopt(0, 5), 1);
        due("a greater generation", RICH.chart().adopt(2, 5), 3);
        due("the greatest generation", Checks.chartOf(Texts.ladder().replace("l m 1 n", "l m 1")).adopt(11, 13), 12);
        Scene ladder = Scene.of(Texts.ladder()).then(c -> c.release(2));
        due("the generation of c again", ladder.chart().adopt(0, 2), 1);
        due("that of all behind it", ladder.then(c -> c.adopt(0, 2)).chart().person(13, 1), 12);
        due("rows again", ladder.then(c -> c.adopt(0, 2)).chart().count(2), 13);
        due("a partner of a later union", Checks.chartOf(Texts.persons(4) + "union a b 1;union c d 1;").adopt(0, 2), 1);
    }

    private static void adoptRefused() {
        refuseEach("adopt into union 0, who has parents", RICH, (c, person) -> c.adopt(0, person), -2, 2, 3, 4);
        refuseEach("adopt into union 2, who has parents", RICH, (c, person) -> c.adopt(2, person), -2, 2, 3, 4);
        refuseEach("adopt into union 1, a partner with parents", RICH, (c, person) -> c.adopt(1, person), -2, 2, 3);
        refuseEach("adopt into union 0, a partner", RICH, (c, person) -> c.adopt(0, person), -3, 0, 1);
        refuseEach("adopt into union 1, an ancestor", RICH, (c, person) -> c.adopt(1, person), -3, 0, 1);
        refuseEach("adopt into union 2, a partner or an ancestor", RICH, (c, person) -> c.adopt(2, person), -3, 0, 1);
        refuseEach("adopt the first one of the ladder", Scene.of(Texts.ladder()), (c, union) -> c.adopt(union, 0), -3, 0,
                1, 2, 3, 10, 11);
        refuseEach("adopt the last one of the ladder", Scene.of(Texts.ladder()), (c, union) -> c.adopt(union, 13), -2, 0,
                1, 2, 3, 10, 11);
    }

    private static void releases() {
        due("the union", RICH.chart().release(2), 0);
        due("the last union", Checks.chartOf(Texts.ladder()).release(13), 11);
        refuseEach("release of a root", RICH, (c, person) -> c.release(person), -2, 0, 1, 5);
        refuseEach("release of one of 16 roots", FULL, (c, person) -> c.release(person), -2, 0, 1, 15);
        Scene twice = RICH.then(c -> c.release(2));
        Checks.refused("a second release", twice, c -> c.release(2), -2);
        due("the generation then", twice.chart().person(2, 1), 0);
        due("the union of parents then", twice.chart().person(2, 2), -1);
        due("the children then", twice.chart().children(0), 8);
    }

    private static void swaps() {
        Scene four = Scene.of(Texts.persons(4) + "union a c 1;union b d 1;");
        due("crossings afterwards", four.chart().swap(0, 1, 2), 0);
        due("crossings of the last places", four.chart().swap(0, 2, 3), 0);
        due("crossings of the first place and the last one", four.chart().swap(0, 0, 3), 0);
        due("a place with itself", four.chart().swap(0, 3, 3), 1);
        FamilyChart chart = four.swap(0, 3, 0).chart();
        int[] order = {3, 1, 2, 0};
        for (int place = 0; place < 4; place++) {
            due("box at " + place, chart.box(0, place, 0), order[place]);
            due("place of " + order[place], chart.place(order[place]), place);
        }
        due("the last box of 16", FULL.chart().swap(0, 15, 0) >= 0 ? 1 : 0, 1);
    }

    private static void roundsOfImprove() {
        due("no round", Checks.chartOf(TWO_ROUNDS).improve(0), 0);
        due("one round", Checks.chartOf(TWO_ROUNDS).improve(1), 1);
        due("two rounds", Checks.chartOf(TWO_ROUNDS).improve(2), 2);
        due("the third one changes nothing", Checks.chartOf(TWO_ROUNDS).improve(5), 2);
        FamilyChart two = Scene.of(TWO_ROUNDS).then(c -> c.improve(5)).chart();
        due("the place of i", two.place(8), 0);
        due("the place of g", two.place(6), 1);
        due("crossings", two.crossings(), 0);
        due("nobody by five", EMPTY.chart().improve(5), 0);
        due("one by five", Checks.chartOf(Texts.persons(1)).improve(5), 0);
        // So many rounds are as many times one round.
        FamilyChart single = Checks.chartOf(SIX_ROUNDS);
        int swaps = 0;
        for (int rounds = 1; rounds <= 5; rounds++) {
            int more = single.improve(1);
            due("round " + rounds + " swaps", more > 0 ? 1 : 0, 1);
            swaps += more;
            FamilyChart several = Checks.chartOf(SIX_ROUNDS);
            due(rounds + " rounds", several.improve(rounds), swaps);
            due("crossings behind " + rounds, several.crossings(), single.crossings());
        }
        due("round 6 swaps", single.improve(1) > 0 ? 1 : 0, 1);
        due("round 7 does not", single.improve(5), 0);
    }

    private static void swapsOfImprove() {
        String pairs = Texts.persons(9) + "union a b 1 g;union e f 1 h;union c d 1 i;";
        FamilyChart last = Scene.of(pairs).then(c -> c.improve(1)).chart();
        due("the last two boxes of the last row", last.place(8), 1);
        due("crossings", last.crossings(), 0);
        // Swapping b and c, whose unions with a share its box, puts right the children below them.
        Scene below = Scene.of(Texts.persons(6) + "union a c 1 e;union a b 1 f;");
        due("crossings below the first row", below.chart().crossingsOf(0, true), 1);
        due("a swap for the row below", below.chart().improve(1), 1);
        due("c ahead of b", below.then(c -> c.improve(1)).chart().place(2), 1);
        due("the children stay", below.then(c -> c.improve(1)).chart().place(4), 0);
        FamilyChart first = Scene.of(Texts.persons(4) + "union a c 1;union b d 1;").then(c -> c.improve(1)).chart();
        due("the first two boxes of the first row", first.place(1), 0);
        due("nothing else", first.place(2), 2);
        // The crossing of both references, those boxes of one person, is undone by the first swap that does so.
        String twice = Texts.persons(5) + "union a b 1 c d;union e c 1;union e d 1;";
        FamilyChart references = Scene.of(twice).then(c -> c.improve(1)).chart();
        due("crossings of references", references.crossings(), 0);
        due("d ahead of c", references.box(1, 0, 0), 3);
        due("the references as they were", references.box(1, 2, 1), 1);
        // Where a swap leaves as many crossings as there were, the boxes stay.
        Scene same = Scene.of(Texts.FAMILY).swap(0, 0, 1).swap(1, 0, 1);
        due("no swap without fewer crossings", same.chart().improve(5), 0);
        due("row 0 stays", same.then(c -> c.improve(5)).chart().place(0), 1);
        due("row 1 stays", same.then(c -> c.improve(5)).chart().place(2), 1);
        // In one round a box may go all the way to the right, as the boxes are swapped then.
        String right = Texts.persons(10) + "union e f 1 g;union a b 1 h;union c d 1 i;union c a 1 j;";
        FamilyChart moved = Scene.of(right).chart();
        due("crossings ahead", moved.crossingsOf(0, true), 4);
        String three = Texts.persons(9) + "union e f 1 g;union a b 1 h;union c d 1 i;";
        due("two swaps of one round", Checks.chartOf(three).improve(1), 2);
        due("g is the last one", Scene.of(three).then(c -> c.improve(1)).chart().place(6), 2);
    }

    private static void keysOfArrange() {
        Scene crossed = Scene.of(Texts.CROSSED);
        due("crossings", crossed.chart().arrange(), 0);
        int[][] want = {{6, -1}, {4, 2}, {5, -1}};
        FamilyChart chart = crossed.then(FamilyChart::arrange).chart();
        FamilyChart ahead = crossed.swap(1, 1, 2).then(FamilyChart::arrange).chart();
        int[][] wantAhead = {{4, 2}, {6, -1}, {5, -1}};
        for (int place = 0; place < 3; place++) {
            due("person at " + place, chart.box(1, place, 0), want[place][0]);
            due("union at " + place, chart.box(1, place, 1), want[place][1]);
            due("person at " + place + ", its reference ahead", ahead.box(1, place, 0), wantAhead[place][0]);
            due("union at " + place + ", its reference ahead", ahead.box(1, place, 1), wantAhead[place][1]);
        }
        // Keys that are the same keep their order, whichever it is.
        Scene same = Scene.of(Texts.persons(6) + "union a b 1 c d e f;").swap(1, 0, 3).swap(1, 1, 3);
        FamilyChart kept = same.then(FamilyChart::arrange).chart();
        int[] order = {5, 2, 4, 3};
        for (int place = 0; place < 4; place++) {
            due("the same keys at " + place, kept.box(1, place, 0), order[place]);
        }
        // Three pairs with a child each: the children are sorted from any order to g, h and i.
        String three = Texts.persons(9) + "union a b 1 g;union c d 1 h;union e f 1 i;";
        int[][] swaps = {{0, 0, 0, 0}, {0, 1, 0, 0}, {1, 2, 0, 0}, {0, 2, 0, 0}, {0, 1, 1, 2}, {1, 2, 0, 1}};
        for (int[] swap : swaps) {
            FamilyChart sorted = Scene.of(three).swap(1, swap[0], swap[1]).swap(1, swap[2], swap[3])
                    .then(FamilyChart::arrange).chart();
            for (int place = 0; place < 3; place++) {
                due("sorted at " + place, sorted.box(1, place, 0), 6 + place);
            }
        }
        due("keys one apart", Scene.of(Texts.persons(6) + "union a d 1 e;union a c 1 f;").then(FamilyChart::arrange)
                .chart().place(5), 0);
        due("keys that are the same", Scene.of(Texts.persons(6) + "union a d 1 e;union b c 1 f;")
                .then(FamilyChart::arrange).chart().place(5), 1);
    }

    private static void rowsOfArrange() {
        Scene first = Scene.of(Texts.persons(4) + "union a c 1;union b d 1;").swap(0, 0, 1).swap(0, 0, 3);
        due("crossings of the first row", first.chart().arrange(), 0);
        for (int place = 0; place < 4; place++) {
            due("the first row at " + place, first.then(FamilyChart::arrange).chart().box(0, place, 0),
                    first.chart().box(0, place, 0));
        }
        Scene left = Scene.of(Texts.persons(4) + "union a c 1;union b d 1;");
        due("crossings of the first row are left", left.chart().arrange(), 1);
        due("and those below it", Checks.chartOf(Texts.persons(8) + "union a c 1 g;union b d 1 f;union a b 1 e;")
                .arrange(), 1);
        due("without persons", EMPTY.chart().arrange(), 0);
        due("of one person", Checks.chartOf(Texts.persons(1)).arrange(), 0);
        // Row 1 is turned round, so that row 2 is turned round too, and then row 3.
        String deep = Texts.persons(12) + "union c d 1 e f;union a b 1 g h;union e f 1 i;union g h 1 j;";
        FamilyChart chart = Scene.of(deep).then(FamilyChart::arrange).chart();
        due("g is the first one", chart.place(6), 0);
        due("j is the first one", chart.place(9), 0);
        due("crossings", chart.crossings(), 0);
        Scene last = Scene.of(Texts.ladder()).swap(11, 0, 1).then(FamilyChart::arrange);
        due("the reference stays ahead in row 11", last.chart().box(11, 0, 1), 11);
    }

    private static void plainRows() {
        Scene scene = RICH.plain();
        for (int row = 0; row < 3; row++) {
            for (int place = 0; place < 2; place++) {
                due("row " + row + " at " + place, scene.chart().box(row, place, 1), row == 2 && place == 1 ? 2 : -1);
            }
        }
        due("person 0", scene.chart().place(0), 0);
        due("person 2", scene.chart().place(2), 0);
        due("nobody", EMPTY.plain().chart().undoCount(), 1);
        FamilyChart full = FULL.plain().chart();
        for (int i = 0; i < 16; i++) {
            due("person " + i, full.place(i), i);
        }
    }

    private static void countsOfUndo() {
        FamilyChart chart = Checks.chartOf(Texts.persons(2));
        for (int i = 1; i <= 12; i++) {
            chart.swap(0, 0, 1);
            due("undoCount behind " + i, chart.undoCount(), Math.min(i, 10));
        }
        due("without operations", EMPTY.chart().undoCount(), 0);
        due("behind a load", FULL.then(c -> c.load(176)).chart().undoCount(), 0);
        due("behind a load that is wrong", FULL.then(c -> c.load(181)).chart().undoCount(), 10);
        due("behind a restored snapshot", FULL.then(c -> c.restoreSnapshot() ? 1 : 0).chart().undoCount(), 0);
    }

    private static void nothingToUndo() {
        Checks.refused("undo of a new object", EMPTY, FamilyChart::undo, -1);
        Checks.refused("undo behind load", Scene.of(Texts.FAMILY), FamilyChart::undo, -1);
        Checks.refused("undo behind the snapshot", RICH.then(c -> c.restoreSnapshot() ? 1 : 0), FamilyChart::undo, -1);
        Scene undone = FULL;
        for (int left = 9; left >= 0; left--) {
            due("undo", undone.chart().undo(), left);
            undone = undone.then(FamilyChart::undo);
        }
        Checks.refused("undo behind ten", undone, FamilyChart::undo, -1);
        Scene one = Scene.of(Texts.persons(2)).swap(0, 0, 1);
        due("the only one", one.chart().undo(), 0);
        Checks.refused("undo behind the only one", one.then(FamilyChart::undo), FamilyChart::undo, -1);
    }

    private static void savesSnapshot() {
        FamilyChart chart = RICH.save().swap(0, 0, 1).then(c -> c.restoreSnapshot() ? 1 : 0).chart();
        due("the later one", chart.place(0), 2);
        due("of its unions", chart.count(1), 3);
        due("saving is not recorded", RICH.save().chart().undoCount(), 7);
        due("saving keeps what can be undone", RICH.save().chart().undo(), 6);
        Scene nobody = EMPTY.save();
        due("of nobody", nobody.chart().restoreSnapshot() ? 1 : 0, 1);
        due("of nobody, twice", nobody.then(c -> c.restoreSnapshot() ? 1 : 0).chart().restoreSnapshot() ? 1 : 0, 1);
        due("of nobody, discarded", nobody.load("").chart().restoreSnapshot() ? 1 : 0, 0);
        due("of nobody, kept behind a wrong text", nobody.load(";").chart().restoreSnapshot() ? 1 : 0, 1);
        // Neither undo nor what follows changes the snapshot.
        Scene later = Scene.of(Texts.FAMILY).then(c -> c.marry(0, 4, 7)).save().then(FamilyChart::undo)
                .then(c -> c.marry(1, 4, 8)).then(c -> c.release(2));
        due("the snapshot's union", later.then(c -> c.restoreSnapshot() ? 1 : 0).chart().union(2, 0), 0);
        due("the snapshot's year", later.then(c -> c.restoreSnapshot() ? 1 : 0).chart().union(2, 2), 7);
        due("the snapshot's parents", later.then(c -> c.restoreSnapshot() ? 1 : 0).chart().person(2, 2), 0);
        Scene others = Scene.of(Texts.FAMILY).then(c -> c.marry(0, 4, 7)).save().then(FamilyChart::undo)
                .then(c -> c.marry(1, 2, 8)).then(c -> c.restoreSnapshot() ? 1 : 0);
        due("the snapshot's first partner", others.chart().union(2, 0), 0);
        due("the snapshot's second partner", others.chart().union(2, 1), 4);
        due("undo is as before", later.then(FamilyChart::undo).chart().union(2, 2), 8);
    }

    private static void noSnapshot() {
        Checks.refused("without a snapshot", EMPTY, c -> c.restoreSnapshot() ? 1 : 0, 0);
        Scene none = Scene.of(Texts.FAMILY).swap(0, 0, 1).then(c -> c.marry(0, 4, 7)).swap(2, 0, 1);
        Checks.refused("without a snapshot, with operations", none, c -> c.restoreSnapshot() ? 1 : 0, 0);
        Checks.refused("a snapshot that is discarded", RICH.load(Texts.FAMILY), c -> c.restoreSnapshot() ? 1 : 0, 0);
        due("a snapshot", RICH.chart().restoreSnapshot() ? 1 : 0, 1);
    }

    private static void restoresSnapshot() {
        Scene restored = RICH.then(c -> c.restoreSnapshot() ? 1 : 0);
        due("restored", RICH.chart().restoreSnapshot() ? 1 : 0, 1);
        due("restored again", restored.chart().restoreSnapshot() ? 1 : 0, 1);
        due("undoCount", restored.chart().undoCount(), 0);
        due("undo", restored.chart().undo(), -1);
        due("the child that was adopted then", restored.chart().person(5, 2), 2);
        due("the rows of then", restored.chart().count(2), 4);
        due("the order of then", restored.chart().place(0), 1);
        due("the references of then", restored.chart().count(4), 1);
        Scene again = restored.swap(0, 0, 1).then(c -> c.release(5)).then(c -> c.marry(1, 5, 1));
        Checks.due("the same the second time", restored.portrait().firstChange(again
                .then(c -> c.restoreSnapshot() ? 1 : 0).portrait()), "");
        due("operations behind it are undone", again.chart().undo(), 2);
        Scene saved = Scene.of(Texts.FAMILY).save();
        Checks.due("nothing has happened since", saved.portrait().firstChange(saved
                .then(c -> c.restoreSnapshot() ? 1 : 0).portrait()), "");
    }

    private static void lengthsOfQuery() {
        String most = "many " + " ".repeat(186) + "person=15";
        Scene scene = EMPTY.feed(Texts.persons(16)).then(c -> c.load(176));
        due("200 bytes", scene.feed(most).chart().query(200), 1);
        due("201 bytes", Checks.outcome(() -> scene.feed(most + " ").chart().query(201)), Checks.BAD_ARGUMENT);
        due("200 of 220", scene.feed(most + "                    ").chart().query(200), 1);
        due("199 bytes", scene.feed(most).chart().query(199), 1);
        due("198 bytes", scene.feed(most).chart().query(198), HIDDEN - 1);
        Scene fed = RICH.feed("many year > 1931    many");
        due("all that is fed", fed.chart().query(40), HIDDEN - 1);
        due("a part", fed.chart().query(20), 2);
        due("a part that cuts a number", fed.chart().query(14), 5);
        due("a part that cuts a number to one digit", fed.chart().query(13), 6);
        due("no byte", fed.chart().query(0), HIDDEN - 1);
        due("the position of no byte", fed.then(c -> c.query(0)).chart().errorPosition(), 0);
        for (int length : new int[] {0, 12, 13, 20, 40}) {
            due("the buffer behind " + length, fed.then(c -> c.query(length)).chart().feed(0, 0, 0, 0, 0), 20);
        }
        due("a full buffer behind 200", FULL.then(c -> c.query(200)).chart().feed(0, 0, 0, 0, 0), 20);
    }

    private static void answersOfQuery() {
        due("many of all", RICH.query("").chart().errorPosition(), 0);
        due("many", Checks.query(RICH.chart(), "many year>0"), 6);
        due("none of many", Checks.query(RICH.chart(), "many year>2100"), 0);
        due("the smallest one", Checks.query(RICH.chart(), "first year>0"), 0);
        due("the last one", Checks.query(RICH.chart(), "first year<10"), 5);
        due("none", Checks.query(RICH.chart(), "first year>2100"), -1);
        Checks.refusedQuery("many", RICH, 1, 4);
        Checks.refusedQuery("many year=100000", RICH, 2, 10);
        Checks.refusedQuery("many (((((((", RICH, 3, 11);
        Checks.refusedQuery("first", EMPTY, 1, 5);
        Checks.refusedQuery("first 0=100000", EMPTY, 2, 8);
        Checks.refusedQuery("first not not not not not not not", EMPTY, 3, 30);
        // 200 bytes of a full buffer are cut in the year of a person.
        due("a text of persons", FULL.chart().query(200), HIDDEN - 1);
    }

    public static void main(String[] args) {
        Checks.promise(29, "Operation: a new union without children. - `year`: 0 to 2100",
                ChangingEdgesTest::marryWithoutChildren);
        String marry = "Returns its number; -2 if both are the same person, or partners of a union already; -3 if there "
                + "are 12 unions.";
        Checks.promise(29, marry, ChangingEdgesTest::marryNumbers);
        Checks.promise(29, marry, ChangingEdgesTest::marryRefused);
        Checks.promise(30, "Operation: a person becomes a child of a union.", ChangingEdgesTest::adoptIntoUnions);
        String adopt = "Returns the generation of the person afterwards; -2 if the person has parents; -3 if the "
                + "person is a partner of the union or an ancestor of one.";
        Checks.promise(30, adopt, ChangingEdgesTest::adoptGenerations);
        Checks.promise(30, adopt, ChangingEdgesTest::adoptRefused);
        Checks.promise(31, "Returns this union; -2 if the person has no parents.", ChangingEdgesTest::releases);
        Checks.promise(32, "Returns the crossings of the chart afterwards.", ChangingEdgesTest::swaps);
        Checks.promise(33, "Operation: makes rounds, until one changes nothing.", ChangingEdgesTest::roundsOfImprove);
        Checks.promise(33, "In a round, for each row by ascending numbers and each place but the last one, the boxes at "
                + "this place and the next one are swapped if the chart has fewer crossings then.",
                ChangingEdgesTest::swapsOfImprove);
        Checks.promise(34, "Operation: arranges each row but the first one, from the second one on: its boxes are "
                + "sorted by keys; with the same keys they keep their order.", ChangingEdgesTest::rowsOfArrange);
        Checks.promise(34, "The key of the main box of a person with parents is the middle of their union (as the row "
                + "above is arranged then); that of a reference box is the key of the main box of the other partner if "
                + "this one is in the row (the main box), that of other boxes is 1000.",
                ChangingEdgesTest::keysOfArrange);
        Checks.promise(35, "Operation: all rows have the plain order.", ChangingEdgesTest::plainRows);
        Checks.promise(36, "Returns the number of operations that can be undone.", ChangingEdgesTest::countsOfUndo);
        Checks.promise(37, "Returns the number of operations that can still be undone; NONE if there was nothing to "
                + "undo.", ChangingEdgesTest::nothingToUndo);
        Checks.promise(38, "Saves a snapshot of everything that undoing restores. It replaces an earlier snapshot.",
                ChangingEdgesTest::savesSnapshot);
        Checks.promise(39, "Restores the snapshot and clears the undo history. The snapshot is kept.",
                ChangingEdgesTest::restoresSnapshot);
        Checks.promise(39, "Returns true; false if there is no snapshot (nothing changes).",
                ChangingEdgesTest::noSnapshot);
        Checks.promise(40, "Reads the first bytes of the buffer as a query and evaluates it for every person in "
                + "ascending order. The buffer is empty afterwards, also after an error. - `length`: number of bytes to "
                + "read, at most 200", ChangingEdgesTest::lengthsOfQuery);
        Checks.promise(40, "Returns for 'many' the number of persons for which the test holds; for 'first' the smallest "
                + "such person, or NONE; HIDDEN minus the error code if the text has an error.",
                ChangingEdgesTest::answersOfQuery);
        Checks.end("ChangingEdgesTest");
    }
}
