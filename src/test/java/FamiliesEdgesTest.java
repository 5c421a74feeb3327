/** The boundary cases that the document names under 'Families': each sentence has a test of its own. */
public final class FamiliesEdgesTest {
    private static void due(String what, long got, long want) {
        Checks.due(what, got, want);
    }

    private static void mostPersons() {
        StringBuilder text = new StringBuilder();
        for (int i = 0; i < 16; i++) {
            text.append("person ").append(Texts.letter(i)).append(' ').append(100 + i).append(';');
        }
        FamilyChart chart = new FamilyChart();
        due("16 persons", Checks.load(chart, text.toString()), 16);
        due("their number", chart.count(0), 16);
        for (int i = 0; i < 16; i++) {
            due("year of person " + i, chart.person(i, 0), 100 + i);
        }
        due("15 persons", Checks.load(new FamilyChart(), Texts.persons(15)), 15);
        due("1 person", Checks.load(new FamilyChart(), Texts.persons(1)), 1);
        Scene full = Scene.full();
        due("the last person", full.chart().person(15, 0), 1);
        Checks.refusedElement("person 16", full, c -> c.person(16, 0));
        Checks.refusedElement("person -1", full, c -> c.person(-1, 0));
        Checks.refusedText(Texts.persons(17), Scene.rich(), 3, 11 * 16);
        Checks.refusedElement("person 0 of nobody", Scene.empty(), c -> c.person(0, 0));
    }

    private static void mostUnions() {
        StringBuilder text = new StringBuilder(Texts.persons(13));
        for (int i = 0; i < 12; i++) {
            text.append("union a ").append(Texts.letter(i + 1)).append(' ').append(200 + i).append(';');
        }
        FamilyChart chart = new FamilyChart();
        due("12 unions", Checks.load(chart, text.toString()), 13);
        due("their number", chart.count(1), 12);
        for (int i = 0; i < 12; i++) {
            due("year of union " + i, chart.union(i, 2), 200 + i);
        }
        Scene eleven = Scene.of(Texts.persons(13) + Texts.unions(11));
        due("the twelfth union", eleven.chart().marry(0, 12, 5), 11);
        Scene full = Scene.full();
        due("the last union", full.chart().union(11, 1), 12);
        Checks.refusedElement("union 12", full, c -> c.union(12, 0));
        Checks.refusedElement("union -1", full, c -> c.union(-1, 0));
        Checks.refused("a 13th union", full, c -> c.marry(14, 15, 5), -3);
        Checks.refusedText(Texts.persons(14) + Texts.unions(13), Scene.rich(), 3, 11 * 14 + 12 * 12);
        Checks.refusedElement("union 0 of no unions", Scene.of(Texts.persons(2)), c -> c.union(0, 0));
    }

    private static void yearOfPerson() {
        FamilyChart chart = Checks.chartOf("person a 0;person b 2100;person c 00000;person d 0002100;");
        due("year 0", chart.person(0, 0), 0);
        due("year 2100", chart.person(1, 0), 2100);
        due("year 00000", chart.person(2, 0), 0);
        due("year 0002100", chart.person(3, 0), 2100);
        Checks.refusedText("person a 2101;", Scene.rich(), 2, 9);
        Checks.refusedText("person a -1;", Scene.rich(), 1, 9);
    }

    private static void yearOfUnion() {
        FamilyChart chart = Checks.chartOf(Texts.persons(3) + "union a b 0;union a c 2100;");
        due("year 0", chart.union(0, 2), 0);
        due("year 2100", chart.union(1, 2), 2100);
        due("no children", chart.union(0, 4), 0);
        due("no child", chart.children(0), 0);
        due("14 children", Checks.chartOf(Texts.widest()).union(0, 4), 14);
        due("which are all the others", Checks.chartOf(Texts.widest()).children(0), 0xfffc);
        Checks.refusedText(Texts.persons(2) + "union a b 2101;", Scene.rich(), 2, 32);
        Checks.refusedText(Texts.persons(2) + "union a b -1;", Scene.rich(), 1, 32);
    }

    private static void twoDifferentPartners() {
        Checks.refused("marry oneself", Scene.rich(), c -> c.marry(1, 1, 5), -2);
        Checks.refused("marry the last one's self", Scene.full(), c -> c.marry(15, 15, 5), -2);
        Checks.refusedText(Texts.persons(2) + "union b b 5;", Scene.rich(), 5, 30);
    }

    private static void samePartners() {
        Scene rich = Scene.rich();
        Checks.refused("the same two", rich, c -> c.marry(0, 1, 5), -2);
        Checks.refused("the same two the other way round", rich, c -> c.marry(1, 0, 5), -2);
        Checks.refused("the two of the last union", rich, c -> c.marry(4, 0, 5), -2);
        Checks.refused("the two of the twelfth union", Scene.full(), c -> c.marry(12, 0, 5), -2);
        due("one of the two", rich.chart().marry(0, 2, 5), 3);
        due("two that are partners elsewhere", rich.chart().marry(1, 3, 5), 3);
        String pair = Texts.persons(3) + "union a b 1;union b c 1;";
        Checks.refusedText(pair + "union a b 2;", rich, 5, 65);
        Checks.refusedText(pair + "union b a 2;", rich, 5, 65);
        Checks.refusedText(pair + "union c b 2;", rich, 5, 65);
        due("one of the two in a text", Checks.load(new FamilyChart(), pair + "union c a 1;"), 3);
    }

    private static void oneUnionOfParents() {
        Scene rich = Scene.rich();
        Checks.refused("a child of the union", rich, c -> c.adopt(0, 2), -2);
        Checks.refused("a child of another union", rich, c -> c.adopt(2, 3), -2);
        due("its parents", rich.chart().ancestors(3), 3);
        String child = Texts.persons(5) + "union a b 1 e;";
        Checks.refusedText(child + "union c d 1 e;", rich, 5, 81);
        Checks.refusedText(Texts.persons(5) + "union a b 1 e e;", rich, 5, 69);
        due("after a release", rich.then(c -> c.release(4)).chart().adopt(0, 4), 1);
    }

    private static void nobodysOwnAncestor() {
        Scene ladder = Scene.of(Texts.ladder());
        Checks.refused("the first partner", ladder, c -> c.adopt(0, 0), -3);
        Checks.refused("the second partner", ladder, c -> c.adopt(0, 1), -3);
        Checks.refused("a grandparent", ladder, c -> c.adopt(2, 1), -3);
        Checks.refused("the first ancestor of the last union", ladder, c -> c.adopt(11, 0), -3);
        // Behind the release of g only the first partner, f, leads up to a.
        Scene first = ladder.then(c -> c.release(6));
        Checks.refused("an ancestor of the first partner alone", first, c -> c.adopt(5, 0), -3);
        Checks.refused("an ancestor of the second partner alone", Scene.of(Texts.persons(6)
                + "union a b 1 c;union d c 1;"), c -> c.adopt(1, 0), -3);
        due("a descendant", ladder.then(c -> c.release(13)).chart().adopt(0, 13), 1);
        due("a child of a child", ladder.then(c -> c.release(4)).chart().adopt(0, 4), 1);
        String two = Texts.persons(4) + "union a b 1 c;";
        Checks.refusedText(two + "union c d 1 a;", Scene.rich(), 5, 70);
        Checks.refusedText(two + "union d c 1 b;", Scene.rich(), 5, 70);
        Checks.refusedText(two + "union c d 1 c;", Scene.rich(), 5, 70);
        Checks.refusedText(two + "union c d 1 d;", Scene.rich(), 5, 70);
    }

    private static void greatestGeneration() {
        due("without parents", Checks.chartOf(Texts.persons(1)).person(0, 1), 0);
        FamilyChart ladder = Checks.chartOf(Texts.ladder());
        FamilyChart upwards = Checks.chartOf(Texts.ladderUpwards());
        for (int i = 1; i < 14; i++) {
            due("generation on the ladder " + i, ladder.person(i, 1), i - 1);
            due("generation on the ladder upwards " + i, upwards.person(13 - i, 1), i - 1);
        }
        String three = Texts.persons(5) + "union a b 1 c;";
        due("the first one is greater", Checks.chartOf(three + "union c d 1 e;").person(4, 1), 2);
        due("the second one is greater", Checks.chartOf(three + "union d c 1 e;").person(4, 1), 2);
        FamilyChart cut = Checks.chartOf(Texts.ladder());
        cut.release(2);
        due("behind the release of c", cut.person(2, 1), 0);
        due("its child", cut.person(3, 1), 1);
        due("the last one", cut.person(13, 1), 11);
        cut.adopt(0, 2);
        due("the last one behind adopt", cut.person(13, 1), 12);
    }

    private static void levels() {
        FamilyChart ladder = Checks.chartOf(Texts.ladder());
        FamilyChart upwards = Checks.chartOf(Texts.ladderUpwards());
        for (int i = 0; i < 12; i++) {
            due("level on the ladder " + i, ladder.union(i, 3), i);
            due("level on the ladder upwards " + i, upwards.union(11 - i, 3), i);
            due("child on the ladder " + i, ladder.person(i + 2, 1), i + 1);
        }
        String three = Texts.persons(4) + "union a b 1 c;";
        due("the first partner is greater", Checks.chartOf(three + "union c d 1;").union(1, 3), 1);
        due("the second partner is greater", Checks.chartOf(three + "union d c 1;").union(1, 3), 1);
    }

    public static void main(String[] args) {
        String most = "There are at most 16 persons and 12 unions, both numbered from 0.";
        Checks.sentence(most, FamiliesEdgesTest::mostPersons);
        Checks.sentence(most, FamiliesEdgesTest::mostUnions);
        Checks.sentence("A person has a name and a year (0 to 2100).", FamiliesEdgesTest::yearOfPerson);
        String union = "A union has two different partners (persons), a year, and children (persons); "
                + "no two unions have the same two partners.";
        Checks.sentence(union, FamiliesEdgesTest::yearOfUnion);
        Checks.sentence(union, FamiliesEdgesTest::twoDifferentPartners);
        Checks.sentence(union, FamiliesEdgesTest::samePartners);
        Checks.sentence("A person is a child of at most one union, whose partners are then the parents.",
                FamiliesEdgesTest::oneUnionOfParents);
        Checks.sentence("Nobody is an ancestor of himself or herself",
                FamiliesEdgesTest::nobodysOwnAncestor);
        Checks.sentence("The generation of a person is 0 without parents, otherwise 1 more than the greatest "
                + "generation of both parents.", FamiliesEdgesTest::greatestGeneration);
        Checks.sentence("The level of a union is the greatest generation of its partners; so its children have the "
                + "generation level + 1.", FamiliesEdgesTest::levels);
        Checks.end("FamiliesEdgesTest");
    }
}
