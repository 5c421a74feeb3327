/** The boundary cases that the document names under 'Operations': each sentence has a test of its own. */
public final class OperationsEdgesTest {
    private static final int MIN = Checks.MIN;
    private static final int MAX = Checks.MAX;

    private static void due(String what, long got, long want) {
        Checks.due(what, got, want);
    }

    private static long plain(FamilyChart chart) {
        chart.plain();
        return 0;
    }

    private static void recordedWithoutChange(String what, Scene scene, Checks.Ask ask) {
        FamilyChart chart = scene.chart();
        int before = chart.undoCount();
        ask.of(chart);
        due("undoCount behind " + what, chart.undoCount(), before + 1);
        due("undo behind " + what, chart.undo(), before);
        Checks.due("what is left of " + what, scene.portrait().firstChange(scene.then(ask)
                .then(FamilyChart::undo).portrait()), "");
    }

    private static void recordedAlways() {
        for (Scene scene : new Scene[] {Scene.rich(), Scene.of(Texts.ladder()), Scene.of(Texts.persons(1))}) {
            recordedWithoutChange("swap of a box with itself", scene, c -> c.swap(0, 0, 0));
            recordedWithoutChange("improve by no round", scene, c -> c.improve(0));
            recordedWithoutChange("improve by five rounds", scene.then(c -> c.improve(5)), c -> c.improve(5));
            recordedWithoutChange("a second arrange", scene.then(FamilyChart::arrange), FamilyChart::arrange);
            recordedWithoutChange("a second plain", scene.plain(), OperationsEdgesTest::plain);
        }
        recordedWithoutChange("improve of nobody by no round", Scene.empty(), c -> c.improve(0));
        recordedWithoutChange("improve of nobody", Scene.empty(), c -> c.improve(5));
        recordedWithoutChange("arrange of nobody", Scene.empty(), FamilyChart::arrange);
        recordedWithoutChange("plain of nobody", Scene.empty(), OperationsEdgesTest::plain);
        FamilyChart chart = Scene.of(Texts.FAMILY).chart();
        chart.marry(0, 4, 0);
        due("marry", chart.undoCount(), 1);
        chart.release(4);
        due("release", chart.undoCount(), 2);
        chart.adopt(0, 4);
        due("adopt", chart.undoCount(), 3);
        chart.swap(0, 0, 1);
        due("swap", chart.undoCount(), 4);
        chart.improve(1);
        due("improve", chart.undoCount(), 5);
        chart.arrange();
        due("arrange", chart.undoCount(), 6);
        chart.plain();
        due("plain", chart.undoCount(), 7);
        chart.saveSnapshot();
        chart.crossingsIf(0, 0, 1);
        chart.format(0, 0, 10);
        due("what is no operation", chart.undoCount(), 7);
    }

    private static void refusedOnes() {
        Scene rich = Scene.rich();
        Checks.refused("marry oneself", rich, c -> c.marry(2, 2, 0), -2);
        Checks.refused("marry a partner", rich, c -> c.marry(3, 2, 2100), -2);
        Checks.refused("adopt a child", rich, c -> c.adopt(2, 4), -2);
        Checks.refused("adopt a partner", rich, c -> c.adopt(0, 1), -3);
        Checks.refused("adopt an ancestor", rich, c -> c.adopt(1, 1), -3);
        Checks.refused("release a root", rich, c -> c.release(5), -2);
        Checks.refusedElement("marry nobody", rich, c -> c.marry(6, 0, 0));
        Checks.refusedElement("adopt nobody", rich, c -> c.adopt(0, 6));
        Checks.refusedElement("adopt into no union", rich, c -> c.adopt(3, 5));
        Checks.refusedElement("release nobody", rich, c -> c.release(-1));
        Checks.refusedElement("swap in no row", rich, c -> c.swap(3, 0, 0));
        Checks.refusedElement("swap at no place", rich, c -> c.swap(0, 0, 3));
        Checks.refusedArgument("marry in no year", rich, c -> c.marry(0, 2, 2101));
        Checks.refusedArgument("improve by six", rich, c -> c.improve(6));
        Scene full = Scene.full();
        Checks.refused("marry once more", full, c -> c.marry(14, 15, 0), -3);
        Checks.refused("marry a partner", full, c -> c.marry(12, 0, 0), -2);
        Checks.refused("adopt a partner", full, c -> c.adopt(11, 12), -3);
        Checks.refused("release a root", full, c -> c.release(15), -2);
        Checks.refusedElement("marry nobody", full, c -> c.marry(0, 16, 0));
        Checks.refusedElement("adopt into no union", full, c -> c.adopt(12, 15));
        Checks.refusedElement("swap at no place", full, c -> c.swap(0, 16, 0));
        Checks.refusedArgument("improve by less than none", full, c -> c.improve(-1));
        Checks.refused("feed without room", full, c -> c.feed(MIN, MAX, -1, 0, 1), -1);
        Checks.refused("undo of nothing", Scene.empty(), FamilyChart::undo, -1);
        Checks.refused("restore of nothing", Scene.empty(), c -> c.restoreSnapshot() ? 1 : 0, 0);
    }

    // Swaps number 1 to count, no two of which leave the same order behind them.
    private static Scene swapped(int count) {
        Scene scene = Scene.of(Texts.persons(16));
        for (int i = 0; i < count; i++) {
            scene = scene.swap(0, i % 8, 8 + i / 8);
        }
        return scene;
    }

    private static void sameRow(String what, FamilyChart chart, FamilyChart want) {
        for (int place = 0; place < 16; place++) {
            due(what + ", place " + place, chart.box(0, place, 0), want.box(0, place, 0));
        }
    }

    private static void tenMostRecent() {
        for (int count = 0; count <= 33; count++) {
            FamilyChart chart = swapped(count).chart();
            int most = Math.min(count, 10);
            due("undoCount behind " + count, chart.undoCount(), most);
            for (int undone = 1; undone <= most; undone++) {
                due("undo " + undone + " behind " + count, chart.undo(), most - undone);
                sameRow("undo " + undone + " behind " + count, chart, swapped(count - undone).chart());
            }
            due("one undo more behind " + count, chart.undo(), -1);
            due("undoCount then", chart.undoCount(), 0);
            sameRow("the oldest one behind " + count, chart, swapped(count - most).chart());
        }
    }

    // Undone operations leave room for others, wherever the oldest one is held.
    private static void undoneAndDoneAgain() {
        for (int count = 0; count < 24; count++) {
            for (int undone = 0; undone <= Math.min(count, 10); undone++) {
                FamilyChart chart = swapped(count).chart();
                for (int i = 0; i < undone; i++) {
                    chart.undo();
                }
                chart.swap(0, 0, 15);
                due("undoCount behind " + count, chart.undoCount(), Math.min(Math.min(count, 10) - undone + 1, 10));
                chart.undo();
                sameRow(undone + " undone of " + count, chart, swapped(count - undone).chart());
            }
        }
    }

    private static void restores(String what, Scene scene, Checks.Ask ask) {
        due(what + " is no refusal", Checks.outcome(() -> ask.of(scene.chart())) < 0 ? 1 : 0, 0);
        Scene undone = scene.then(ask).then(FamilyChart::undo);
        Checks.due("what is left of " + what, scene.portrait().firstChange(undone.portrait()), "");
    }

    private static void everythingChanged() {
        Scene rich = Scene.rich();
        restores("marry", rich, c -> c.marry(1, 2, 1999));
        restores("marry of a later generation", rich, c -> c.marry(5, 3, 0));
        restores("adopt", rich, c -> c.adopt(1, 5));
        restores("adopt into the last union", rich, c -> c.adopt(2, 5));
        restores("release", rich, c -> c.release(2));
        restores("release of the last row", rich, c -> c.release(4));
        restores("swap", rich, c -> c.swap(0, 1, 2));
        restores("swap of a reference box", rich, c -> c.swap(2, 0, 1));
        restores("improve", rich, c -> c.improve(5));
        restores("arrange", rich, FamilyChart::arrange);
        restores("plain", rich, OperationsEdgesTest::plain);
        Scene ladder = Scene.of(Texts.ladder()).swap(5, 0, 1).swap(11, 0, 1);
        restores("release of the ladder's first child", ladder, c -> c.release(2));
        restores("release of its last child", ladder, c -> c.release(13));
        restores("plain on the ladder", ladder, OperationsEdgesTest::plain);
        restores("arrange on the ladder", ladder, FamilyChart::arrange);
        Scene crossed = Scene.of(Texts.CROSSED);
        restores("improve of crossed lines", crossed, c -> c.improve(2));
        restores("arrange of crossed lines", crossed, FamilyChart::arrange);
        String three = Texts.persons(6) + "union a c 1 e;";
        restores("a union that crosses another one", Scene.of(three), c -> c.marry(1, 3, 1));
        restores("a child that crosses another one", Scene.of(Texts.persons(6) + "union c d 1 e;union a b 1;"),
                c -> c.adopt(1, 5));
        restores("the twelfth union", Scene.of(Texts.persons(13) + Texts.unions(11)), c -> c.marry(0, 12, 7));
    }

    private static void sameDrawing(String what, Scene scene, String text) {
        Checks.due(what, Scene.of(text).portrait().firstChangeOfDrawing(scene.portrait()), "");
        Checks.due(what + ", improved", Scene.of(text).then(c -> c.improve(5)).portrait()
                .firstChangeOfDrawing(scene.then(c -> c.improve(5)).portrait()), "");
        Checks.due(what + ", arranged", Scene.of(text).then(FamilyChart::arrange).portrait()
                .firstChangeOfDrawing(scene.then(FamilyChart::arrange).portrait()), "");
    }

    // What an operation leaves is what a text with the same persons and unions tells, also where rows have gone.
    private static void asIfTold() {
        String four = Texts.persons(6);
        sameDrawing("marry", Scene.of(four + "union a c 1;").then(c -> c.marry(1, 3, 1)),
                four + "union a c 1;union b d 1;");
        sameDrawing("marry and undo", Scene.of(four + "union a c 1;").then(c -> c.marry(1, 3, 1))
                .then(FamilyChart::undo), four + "union a c 1;");
        sameDrawing("adopt", Scene.of(four + "union a c 1;union b d 1 e;").then(c -> c.adopt(0, 5)),
                four + "union a c 1 f;union b d 1 e;");
        sameDrawing("adopt and undo", Scene.of(four + "union a c 1;union b d 1 e;").then(c -> c.adopt(0, 5))
                .then(FamilyChart::undo), four + "union a c 1;union b d 1 e;");
        sameDrawing("release", Scene.of(four + "union a c 1 f;union b d 1 e;").then(c -> c.release(5)),
                four + "union a c 1;union b d 1 e;");
        for (int i = 2; i < 14; i++) {
            int child = i;
            String less = Texts.ladder().replace(" 1 " + Texts.letter(i) + ";", " 1;");
            sameDrawing("release on the ladder of " + i, Scene.of(Texts.ladder()).then(c -> c.release(child)), less);
            sameDrawing("release and adopt on the ladder of " + i, Scene.of(Texts.ladder())
                    .then(c -> c.release(child)).then(c -> c.adopt(child - 2, child)), Texts.ladder());
            sameDrawing("adopt on the ladder of " + i, Scene.of(less).then(c -> c.adopt(child - 2, child)),
                    Texts.ladder());
            sameDrawing("adopt and undo on the ladder of " + i, Scene.of(less).then(c -> c.adopt(child - 2, child))
                    .then(FamilyChart::undo), less);
        }
    }

    // A restored row count goes with a restored order, though marry and release lay the rows anew.
    private static void severalAtOnce() {
        Scene start = Scene.of(Texts.FAMILY + "person otto 7;").swap(0, 0, 2);
        Scene scene = start.then(c -> c.release(2)).swap(0, 1, 3).then(c -> c.marry(2, 5, 3)).swap(0, 0, 3)
                .then(c -> c.adopt(1, 5)).then(c -> c.release(4)).then(c -> c.adopt(2, 4)).then(c -> c.improve(5));
        due("eight operations behind a swap", scene.chart().undoCount(), 9);
        for (int i = 0; i < 8; i++) {
            scene = scene.then(FamilyChart::undo);
        }
        Checks.due("eight undone", start.portrait().firstChange(scene.portrait()), "");
    }

    public static void main(String[] args) {
        Checks.sentence("Every successful call of an operation is recorded, even if it changes nothing.",
                OperationsEdgesTest::recordedAlways);
        Checks.sentence("A call that returns a negative error code or throws an exception changes nothing.",
                OperationsEdgesTest::refusedOnes);
        String ten = "The 10 most recent operations can be undone, the most recent one first.";
        Checks.sentence(ten, OperationsEdgesTest::tenMostRecent);
        Checks.sentence(ten, OperationsEdgesTest::undoneAndDoneAgain);
        String everything = "Undoing restores everything that the operation changed.";
        Checks.sentence(everything, OperationsEdgesTest::everythingChanged);
        Checks.sentence(everything, OperationsEdgesTest::severalAtOnce);
        Checks.sentence("Each successful call of marry, adopt or release brings the plain order of all rows back.",
                OperationsEdgesTest::asIfTold);
        Checks.end("OperationsEdgesTest");
    }
}
