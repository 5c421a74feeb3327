/** The boundary cases that the document names under 'Relations': each sentence has a test of its own. */
public final class RelationsEdgesTest {
    private static final long SELF = 1L << 39;

    private static void due(String what, long got, long want) {
        Checks.due(what, got, want);
    }

    private static void withOneself() {
        FamilyChart family = Checks.chartOf(Texts.FAMILY);
        due("without parents", family.kinship(0, 0), SELF);
        due("of unrelated parents", family.kinship(2, 2), SELF);
        due("of siblings", family.kinship(4, 4), SELF + (1L << 37));
        due("the only person", Checks.chartOf(Texts.persons(1)).kinship(0, 0), SELF);
        due("the last person", Scene.full().chart().kinship(15, 15), SELF);
        // n's parents are b and m, whose kinship is that of b with all eleven steps below b.
        long half = SELF / 2;
        long withParent = half;
        for (int i = 0; i < 10; i++) {
            withParent = (withParent + SELF) / 2;
        }
        FamilyChart line = Checks.chartOf(Texts.line());
        due("b with m", line.kinship(1, 12), withParent);
        due("n with itself", line.kinship(13, 13), SELF + withParent / 2);
    }

    private static void ofTwoPersons() {
        FamilyChart line = Checks.chartOf(Texts.line());
        for (int steps = 1; steps <= 12; steps++) {
            due("a with " + steps + " steps below", line.kinship(0, steps + 1), SELF >> steps);
            due("the other way round", line.kinship(steps + 1, 0), SELF >> steps);
        }
        due("partners without parents", line.kinship(0, 1), 0);
        due("partners the other way round", line.kinship(1, 0), 0);
        FamilyChart full = Scene.full().chart();
        due("the first with the last", full.kinship(0, 15), 0);
        due("the last with the first", full.kinship(15, 0), 0);
        FamilyChart family = Checks.chartOf(Texts.FAMILY + "person otto 7;");
        due("one without parents, of the lesser generation", family.kinship(5, 4), 0);
        due("and the other way round", family.kinship(4, 5), 0);
        due("siblings", family.kinship(2, 3), SELF / 2);
        due("siblings the other way round", family.kinship(3, 2), SELF / 2);
        due("a child of both siblings", family.kinship(2, 4), (SELF + SELF / 2) / 2);
        // The person with the lower number may be of the greater generation.
        FamilyChart upwards = Checks.chartOf("person c 1;person a 1;person b 1;person d 1;union a b 1 c;union a d 1;");
        due("a child ahead of its parent", upwards.kinship(0, 1), SELF / 2);
        due("a parent behind its child", upwards.kinship(2, 0), SELF / 2);
        due("the other partner of the parent", upwards.kinship(3, 0), 0);
    }

    // Six steps lead from a down to h, and six from a down to n: twelve halves of 2^39, and no part is lost.
    private static void exactParts() {
        StringBuilder text = new StringBuilder(Texts.persons(16));
        text.append("union a o 1 b;union a p 1 h;");
        for (int i = 1; i < 6; i++) {
            text.append("union ").append(Texts.letter(i)).append(" o 1 ").append(Texts.letter(i + 1)).append(';');
            text.append("union ").append(Texts.letter(i + 6)).append(" p 1 ").append(Texts.letter(i + 7)).append(';');
        }
        FamilyChart lines = Checks.chartOf(text.toString());
        due("unions", lines.count(1), 12);
        for (int i = 0; i < 6; i++) {
            for (int k = 0; k < 6; k++) {
                due("b and " + i + " below with h and " + k + " below", lines.kinship(1 + i, 7 + k), SELF >> 2 + i + k);
            }
        }
        due("of the last ones", lines.kinship(12, 6), 1L << 27);
    }

    // Each child of the ladder has the one before it and the one before that as parents.
    private static void exactSums() {
        FamilyChart ladder = Checks.chartOf(Texts.ladder());
        long ofParents = 0;
        long ofLater = SELF;
        for (int i = 2; i < 14; i++) {
            long withLater = (ofLater + ofParents) / 2;
            ofLater = SELF + ofParents / 2;
            due("with oneself on the ladder " + i, ladder.kinship(i, i), ofLater);
            due("with the later parent on the ladder " + i, ladder.kinship(i, i - 1), withLater);
            due("the other way round " + i, ladder.kinship(i - 1, i), withLater);
            ofParents = withLater;
        }
    }

    // Generation and both parents of each person, as the chart tells them.
    private static int[][] lineage(FamilyChart chart) {
        int[][] told = new int[chart.count(0)][];
        for (int i = 0; i < told.length; i++) {
            int union = chart.person(i, 2);
            boolean none = union == FamilyChart.NONE;
            told[i] = new int[] {chart.person(i, 1), none ? -1 : chart.union(union, 0), none ? -1 : chart.union(union, 1)};
        }
        return told;
    }

    // The recursion in the document's words.
    private static long kinship(int[][] lineage, int one, int other) {
        boolean turned = lineage[one][0] > lineage[other][0] || lineage[one][0] == lineage[other][0] && one > other;
        if (turned) {
            return kinship(lineage, other, one);
        }
        int first = lineage[other][1];
        int second = lineage[other][2];
        if (one == other) {
            return first < 0 ? SELF : SELF + kinship(lineage, first, second) / 2;
        }
        return first < 0 ? 0 : (kinship(lineage, one, first) + kinship(lineage, one, second)) / 2;
    }

    // All pairs, also of 16 persons whose numbers do not follow their generations.
    private static void allPairs() {
        String mixed = Texts.persons(16) + "union a p 1 o;union a o 1 n m;union n p 1 l;union m l 1 k;union k a 1 j i;"
                + "union i j 1 h;union h o 1 g f;union g b 1 e;union e f 1 d;union d c 1;";
        String[] texts = {mixed, Texts.ladder(), Texts.ladderUpwards(), Texts.zigzag(), Texts.widest(), Texts.line()};
        for (String text : texts) {
            int[][] lineage = lineage(Checks.chartOf(text));
            for (int one = 0; one < lineage.length; one++) {
                FamilyChart chart = Checks.chartOf(text);
                for (int other = 0; other < lineage.length; other++) {
                    due(one + " with " + other + " of " + text, chart.kinship(one, other), kinship(lineage, one, other));
                }
            }
        }
    }

    private static void kinshipFollows() {
        FamilyChart chart = Checks.chartOf(Texts.FAMILY);
        due("siblings", chart.kinship(2, 3), SELF / 2);
        chart.release(3);
        due("behind release", chart.kinship(2, 3), 0);
        due("the child of both", chart.kinship(4, 4), SELF);
        chart.undo();
        due("behind undo", chart.kinship(2, 3), SELF / 2);
        Checks.load(chart, Texts.persons(5));
        due("behind another text", chart.kinship(2, 3), 0);
    }

    private static void leastSteps() {
        FamilyChart zigzag = Checks.chartOf(Texts.zigzag());
        due("to oneself", zigzag.distance(0, 0), 0);
        due("from a parent", zigzag.distance(0, 8), 1);
        due("from a child", zigzag.distance(8, 0), 1);
        due("to a partner", zigzag.distance(0, 1), 2);
        for (int i = 0; i < 8; i++) {
            due("along the longest way to " + i, zigzag.distance(0, i), 2 * i);
            due("back from " + i, zigzag.distance(i, 0), 2 * i);
        }
        due("the longest way but one", zigzag.distance(0, 14), 13);
        due("no way", zigzag.distance(0, 15), -1);
        due("no way back", zigzag.distance(15, 7), -1);
        due("to oneself without a way", zigzag.distance(15, 15), 0);
        due("no child, no way", Checks.chartOf(Texts.persons(2) + "union a b 1;").distance(0, 1), -1);
        FamilyChart ladder = Checks.chartOf(Texts.ladder());
        due("the shorter one of many ways", ladder.distance(13, 1), 6);
        due("down the ladder", ladder.distance(0, 13), 7);
        // otto is a child of al and of the grandchild of al.
        FamilyChart nearer = Checks.chartOf(Texts.FAMILY + "person otto 7;union al ed 1 otto;");
        due("to a grandparent", nearer.distance(4, 0), 2);
        due("by the child of both", nearer.distance(5, 0), 1);
        due("to the other grandparent", nearer.distance(5, 1), 3);
    }

    public static void main(String[] args) {
        String exact = "The kinship of two persons is a number of 1 / 2^40 parts (exact)";
        Checks.sentence(exact, RelationsEdgesTest::exactParts);
        Checks.sentence(exact, RelationsEdgesTest::exactSums);
        Checks.sentence("of a person with himself or herself it is 2^39, plus half of the kinship of both parents if "
                + "there are parents.", RelationsEdgesTest::withOneself);
        String two = "Of two different persons it is half of the sum of the kinships of the one with a parent of the "
                + "other, for both parents of the other one; the other one is the one with the greater generation, on "
                + "a tie the one with the greater number, and it is 0 if that one has no parents.";
        Checks.sentence(two, RelationsEdgesTest::ofTwoPersons);
        Checks.sentence(two, RelationsEdgesTest::allPairs);
        Checks.sentence(two, RelationsEdgesTest::kinshipFollows);
        Checks.sentence("The distance of two persons is the least number of steps from one to the other, where a step "
                + "leads from a child to a parent or back.", RelationsEdgesTest::leastSteps);
        Checks.end("RelationsEdgesTest");
    }
}
