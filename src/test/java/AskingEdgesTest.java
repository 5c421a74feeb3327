/** The boundary cases that promises 6 to 21 name in what they answer: each sentence has a test of its own. */
public final class AskingEdgesTest {
    private static final Scene RICH = Scene.rich();
    private static final Scene FULL = Scene.full();
    private static final Scene EMPTY = Scene.empty();

    private static void due(String what, long got, long want) {
        Checks.due(what, got, want);
    }

    private static void propertiesOfPersons() {
        due("no union of parents", RICH.chart().person(0, 2), -1);
        due("union 0 of parents", RICH.chart().person(2, 2), 0);
        due("behind release", RICH.then(c -> c.release(2)).chart().person(2, 2), -1);
        due("no unions", RICH.chart().person(5, 3), 0);
        due("twelve unions", FULL.chart().person(0, 3), 12);
        FamilyChart ladder = Checks.chartOf(Texts.ladder());
        due("the greatest generation", ladder.person(13, 1), 12);
        due("the greatest union of parents", ladder.person(13, 2), 11);
    }

    private static void propertiesOfUnions() {
        FamilyChart told = Checks.chartOf(Texts.persons(2) + "union b a 0;");
        due("the first partner as told", told.union(0, 0), 1);
        due("the second partner as told", told.union(0, 1), 0);
        FamilyChart married = Scene.of(Texts.persons(16)).then(c -> c.marry(15, 0, 2100)).chart();
        due("the first partner as told to marry", married.union(0, 0), 15);
        due("the second partner as told to marry", married.union(0, 1), 0);
        due("no children", RICH.chart().union(2, 4), 0);
        due("the most children", Checks.chartOf(Texts.widest()).union(0, 4), 14);
    }

    private static void childrenOfUnions() {
        due("no child", FULL.chart().children(11), 0);
        due("all but the partners", Checks.chartOf(Texts.widest()).children(0), 0xfffc);
        due("person 0", Checks.chartOf(Texts.ladderUpwards()).children(0), 1);
        due("person 15", Checks.chartOf(Texts.persons(16) + "union a b 1 p;").children(0), 1 << 15);
    }

    private static void ancestorsOfPersons() {
        due("none", FULL.chart().ancestors(15), 0);
        due("all the others", Checks.chartOf(Texts.ladder()).ancestors(13), (1 << 13) - 1);
        due("all the others, upwards", Checks.chartOf(Texts.ladderUpwards()).ancestors(0), (1 << 14) - 2);
        due("person 15", Checks.chartOf(Texts.persons(16) + "union p o 1 a;").ancestors(0), 3 << 14);
        due("behind release", RICH.then(c -> c.release(2)).chart().ancestors(4), 15);
        due("behind two", RICH.then(c -> c.release(2)).then(c -> c.release(3)).chart().ancestors(4), 12);
    }

    private static void descendantsOfPersons() {
        due("none", FULL.chart().descendants(0), 0);
        due("all that follow", Checks.chartOf(Texts.ladder()).descendants(1), (1 << 14) - 4);
        due("all that follow, upwards", Checks.chartOf(Texts.ladderUpwards()).descendants(13), (1 << 12) - 1);
        due("all but the partners", Checks.chartOf(Texts.widest()).descendants(1), 0xfffc);
        due("a partner without children", RICH.chart().descendants(5), 0);
    }

    private static void kinships() {
        long self = 1L << 39;
        due("of the last one with itself", FULL.chart().kinship(15, 15), self);
        due("of two roots", FULL.chart().kinship(15, 0), 0);
        due("of a child and a parent", RICH.chart().kinship(0, 2), self / 2);
        due("of the child of siblings with itself", RICH.chart().kinship(4, 4), self + self / 4);
        due("of the last one of twelve steps", Checks.chartOf(Texts.line()).kinship(0, 13), self >> 12);
    }

    private static void distances() {
        due("person 0 to a parent", Checks.chartOf(Texts.ladderUpwards()).distance(0, 2), 1);
        due("person 0 to the first ancestor", Checks.chartOf(Texts.ladderUpwards()).distance(0, 13), 7);
        due("the first ancestor to person 0", Checks.chartOf(Texts.ladderUpwards()).distance(13, 0), 7);
        due("no way", RICH.chart().distance(5, 0), -1);
        due("no way between partners", FULL.chart().distance(0, 1), -1);
        due("no step", FULL.chart().distance(15, 15), 0);
        due("a way behind adopt", RICH.then(c -> c.adopt(1, 5)).chart().distance(5, 0), 2);
        due("no way behind release", RICH.then(c -> c.release(2)).then(c -> c.release(3)).chart().distance(4, 0), -1);
    }

    private static void lines() {
        FamilyChart ladder = Checks.chartOf(Texts.ladder());
        FamilyChart upwards = Checks.chartOf(Texts.ladderUpwards());
        // From each person to a: those of both parents together.
        int[] ways = {1, 0, 1, 1, 2, 3, 5, 8, 13, 21, 34, 55, 89, 144};
        for (int i = 0; i < 14; i++) {
            due("linesTo on the ladder from " + i, ladder.linesTo(i, 0), ways[i]);
            due("linesTo on the ladder upwards from " + i, upwards.linesTo(13 - i, 13), ways[i]);
            due("linesTo oneself " + i, ladder.linesTo(i, i), 1);
            due("linesTo a descendant from " + i, ladder.linesTo(i, 13), i == 13 ? 1 : 0);
        }
        due("to a sibling", RICH.chart().linesTo(2, 3), 0);
        due("to a partner", RICH.chart().linesTo(0, 1), 0);
        due("by both parents", RICH.chart().linesTo(4, 1), 2);
    }

    private static void nearest() {
        FamilyChart ladder = Checks.chartOf(Texts.ladder());
        due("oneself", ladder.nearestAncestor(13, 13), 13);
        due("one of both", ladder.nearestAncestor(13, 3), 3);
        due("the other one", ladder.nearestAncestor(3, 13), 3);
        due("none", ladder.nearestAncestor(0, 1), -1);
        due("none of the last one", FULL.chart().nearestAncestor(14, 15), -1);
        due("none but oneself", FULL.chart().nearestAncestor(15, 15), 15);
        due("the lowest number on a tie", RICH.chart().nearestAncestor(2, 3), 0);
        due("a tie of the last ones", Checks.chartOf(Texts.persons(16) + "union p o 1 a b;").nearestAncestor(0, 1), 14);
        // c of generation 1 is told behind a and b, whose generation is 0.
        FamilyChart greater = Checks.chartOf(Texts.persons(6) + "union a b 1 c;union c d 1 e f;");
        due("the greatest generation", greater.nearestAncestor(4, 5), 2);
        FamilyChart first = Checks.chartOf("person c 1;person a 1;person b 1;person d 1;person e 1;person f 1;"
                + "union a b 1 c;union d c 1 e f;");
        due("the greatest generation first", first.nearestAncestor(4, 5), 0);
    }

    private static void collapses() {
        due("one step of a root", RICH.chart().collapse(0, 1), 0);
        due("one step", RICH.chart().collapse(4, 1), 0);
        due("two steps", RICH.chart().collapse(4, 2), 2);
        due("a step too far", RICH.chart().collapse(4, 3), 0);
        FamilyChart ladder = Checks.chartOf(Texts.ladder());
        // n steps lead 2^n ways to n + 1 persons, as long as all of them have parents.
        int[] missing = {0, 1, 4, 11, 26, 57};
        FamilyChart upwards = Checks.chartOf(Texts.ladderUpwards());
        for (int steps = 1; steps <= 6; steps++) {
            due("on the ladder by " + steps, ladder.collapse(13, steps), missing[steps - 1]);
            due("on the ladder upwards by " + steps, upwards.collapse(0, steps), missing[steps - 1]);
        }
        due("on the ladder by 11", ladder.collapse(13, 11), 1 + 11 + 10 - 3);
        due("on the ladder by 12", ladder.collapse(13, 12), 0);
        due("on the ladder by 13", ladder.collapse(13, 13), 0);
        due("on the ladder by 15", ladder.collapse(13, 15), 0);
    }

    private static void boxesOfRows() {
        due("the most", Checks.chartOf(Texts.widest()).boxes(1), 25);
        due("16 main boxes", FULL.chart().boxes(0), 16);
        due("one", Checks.chartOf(Texts.persons(1)).boxes(0), 1);
    }

    private static void propertiesOfBoxes() {
        due("a main box", RICH.chart().box(2, 0, 1), -1);
        due("the reference box of union 2", RICH.chart().box(2, 1, 1), 2);
        due("its person", RICH.chart().box(2, 1, 0), 0);
        FamilyChart first = Checks.chartOf(Texts.persons(4) + "union d c 1;union a b 1 c;");
        due("the reference box of union 0", first.box(1, 1, 1), 0);
    }

    private static void places() {
        due("the last place", Checks.chartOf(Texts.persons(16)).place(15), 15);
        due("the first place", Checks.chartOf(Texts.persons(16)).place(0), 0);
        due("the main box, not the reference box", Checks.chartOf(Texts.widest()).place(0), 0);
        due("a box behind reference boxes", Scene.of(Texts.widest()).swap(1, 0, 24).chart().place(2), 24);
    }

    private static void crossingsOfRows() {
        Scene none = Scene.of(Texts.persons(1));
        due("in the only row", none.chart().crossingsOf(0, false), 0);
        due("below the only row", none.chart().crossingsOf(0, true), 0);
        due("below the last of 13 rows", Checks.chartOf(Texts.ladder()).crossingsOf(12, true), 0);
    }

    private static void crossingsIfSwapped() {
        Scene four = Scene.of(Texts.persons(4) + "union a c 1;union b d 1;");
        int[][] want = {{1, 0, 1, 0}, {0, 1, 0, 1}, {1, 0, 1, 0}, {0, 1, 0, 1}};
        for (int place = 0; place < 4; place++) {
            for (int other = 0; other < 4; other++) {
                int one = place;
                int two = other;
                Checks.refused("crossingsIf " + place + " " + other, four, c -> c.crossingsIf(0, one, two),
                        want[place][other]);
            }
        }
        Scene crossed = Scene.of(Texts.CROSSED);
        Checks.refused("crossingsIf of a reference box", crossed, c -> c.crossingsIf(1, 2, 1), 1);
        Checks.refused("crossingsIf of a reference box with the first one", crossed, c -> c.crossingsIf(1, 2, 0), 0);
    }

    private static void allCrossings() {
        due("of nobody", EMPTY.chart().crossings(), 0);
        due("of one row", FULL.chart().crossings() >= 0 ? 1 : 0, 1);
        due("of two rows", Checks.chartOf(Texts.CROSSED).crossings(), 1);
        due("of 13 rows", Checks.chartOf(Texts.ladder()).crossings(), 0);
    }

    public static void main(String[] args) {
        Checks.promise(6, "`what`: 0 year, 1 generation, 2 the union of which the person is a child (NONE if none), 3 "
                + "the number of unions as a partner, 4 the letters of the name", AskingEdgesTest::propertiesOfPersons);
        Checks.promise(7, "`what`: 0 and 1 its partners (as they were told), 2 its year, 3 its level, 4 the number of "
                + "its children, 5 its middle, 6 its middle column", AskingEdgesTest::propertiesOfUnions);
        Checks.promise(8, "Returns the children of a union as a bit mask (bit i for person i).",
                AskingEdgesTest::childrenOfUnions);
        Checks.promise(9, "Returns the ancestors of a person as a bit mask.", AskingEdgesTest::ancestorsOfPersons);
        Checks.promise(10, "Returns the descendants of a person as a bit mask.", AskingEdgesTest::descendantsOfPersons);
        Checks.promise(11, "Returns the kinship of two persons.", AskingEdgesTest::kinships);
        Checks.promise(12, "Returns the distance of two persons; NONE if there is no way.", AskingEdgesTest::distances);
        Checks.promise(13, "Returns in how many ways one comes from a person, by steps from a child to a parent, to an "
                + "ancestor; 1 if both are the same, 0 if it is no ancestor.", AskingEdgesTest::lines);
        Checks.promise(14, "Returns the common ancestor of both (each one also counts as an ancestor of himself or "
                + "herself here) with the greatest generation, the lowest number on a tie; NONE if there is none.",
                AskingEdgesTest::nearest);
        Checks.promise(15, "Returns in how many ways one comes from the person by this number of steps from a child to "
                + "a parent, minus the number of different persons to whom these lead.", AskingEdgesTest::collapses);
        Checks.promise(16, "Returns the number of boxes of a row.", AskingEdgesTest::boxesOfRows);
        Checks.promise(17, "`what`: 0 its person, 1 the union whose reference box it is (NONE for a main box), 2 its "
                + "first column, 3 its width", AskingEdgesTest::propertiesOfBoxes);
        Checks.promise(18, "Returns the place of the main box of a person in its row.", AskingEdgesTest::places);
        Checks.promise(19, "Returns the crossings of the chart.", AskingEdgesTest::allCrossings);
        Checks.promise(20, "`below`: false for the crossings in the row, true for those below it",
                AskingEdgesTest::crossingsOfRows);
        Checks.promise(21, "Returns the crossings of the chart if the boxes at both places were swapped.",
                AskingEdgesTest::crossingsIfSwapped);
        Checks.end("AskingEdgesTest");
    }
}
