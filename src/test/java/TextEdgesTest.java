/** The boundary cases that the document names under 'Input text', in a text: each sentence has a test of its own. */
public final class TextEdgesTest {
    private static final Scene RICH = Scene.rich();
    private static final String TWO = Texts.persons(2);
    private static final String THREE = Texts.persons(3);
    // The bytes next to those that make words, numbers and blanks, and the ends of the range of bytes.
    private static final int[] SIGNS = {0, 1, 9, 11, 12, 13, 31, 33, 47, 58, 64, 65, 90, 91, 95, 96, 123, 126, 127, 128,
            160, 228, 254, 255};

    private static void due(String what, long got, long want) {
        Checks.due(what, got, want);
    }

    private static void loads(String text, int want) {
        FamilyChart chart = RICH.chart();
        due("load of '" + text + "'", Checks.load(chart, text), want);
        due("the error position of '" + text + "'", chart.errorPosition(), -1);
        due("the persons of '" + text + "'", chart.count(0), want);
        due("the buffer behind '" + text + "'", chart.feed(0, 0, 0, 0, 0), 20);
    }

    private static void wrong(String text, int code, int position) {
        Checks.refusedText(text, RICH, code, position);
    }

    // Each of the tokens is an error behind the text ahead.
    private static void wrongBehind(String ahead, int code, String... tokens) {
        for (String token : tokens) {
            wrong(ahead + token, code, ahead.length());
        }
    }

    private static void words() {
        loads("person az 1;person za 2;person zz 3;union az za 4 zz;", 3);
        FamilyChart chart = Checks.chartOf("person abcxyz 1;");
        due("the letters of a word", chart.person(0, 4), 6);
        wrong("personal 1;", 1, 0);
        wrong("per son al 1;", 1, 0);
        wrong("person al a 1;", 1, 10);
        wrong("person a1 a 1;", 1, 10);
        wrong("person a`b 1;", 1, 8);
        wrong("person a{b 1;", 1, 8);
        wrong("person aBc 1;", 1, 8);
    }

    // A word that differs from a keyword in one letter alone, or by one letter more or less, is another word.
    private static void otherWords() {
        for (String keyword : new String[] {"person", "union"}) {
            for (int i = 0; i < keyword.length(); i++) {
                char letter = keyword.charAt(i) == 'z' ? 'a' : (char) (keyword.charAt(i) + 1);
                wrong(keyword.substring(0, i) + letter + keyword.substring(i + 1) + " al 1;", 1, 0);
                wrong(keyword.substring(0, i) + keyword.substring(i + 1) + " al 1;", 1, 0);
            }
            wrong(keyword + "x al 1;", 1, 0);
            wrong("x" + keyword + " al 1;", 1, 0);
        }
        for (int i = 0; i < 8; i++) {
            String name = "abcdefgh";
            String other = name.substring(0, i) + 'z' + name.substring(i + 1);
            wrong("person " + name + " 1;union " + other, 4, 24);
            loads("person " + name + " 1;person " + other + " 1;union " + other + " " + name + " 1;", 2);
        }
    }

    private static void digits() {
        FamilyChart chart = Checks.chartOf("person a 1234;person b 567;person c 890;person d 0000000999;");
        due("digits 1 to 4", chart.person(0, 0), 1234);
        due("digits 5 to 7", chart.person(1, 0), 567);
        due("digits 8, 9 and 0", chart.person(2, 0), 890);
        due("digits behind zeros", chart.person(3, 0), 999);
        loads("person al 0000000000000000000000000002100;", 1);
        loads("person al " + "0".repeat(700) + "2100;", 1);
        loads("person al " + "0".repeat(789) + ";", 1);
        wrong("person al 21 00;", 1, 13);
        wrong("person al 19/0;", 1, 12);
        wrong("person al 19:0;", 1, 12);
        wrong("person al " + "0".repeat(700) + "2101;", 2, 10);
    }

    private static void otherBytes() {
        for (int code : SIGNS) {
            String sign = String.valueOf((char) code);
            wrong(sign + "person al 1;", 1, 0);
            wrong("person" + sign + "al 1;", 1, 6);
            wrong("person al 1" + sign + ";", 1, 11);
            wrong("person al 1;" + sign + sign, 1, 12);
        }
        wrong("person al 1;;", 1, 12);
        wrong(";", 1, 0);
    }

    private static void blanksBetweenTokens() {
        loads("person\nal\n1\n;\nperson bo 2 ;\n \n union \n\n al  bo\n3\n;", 2);
        loads("person al1;person bo2;union al bo3;", 2);
        loads("person al1900;person bo1;person cy1;union al bo1cy;", 3);
        loads("    \n\n    person al 1;    \n\n    ", 1);
        loads(" ".repeat(780) + "person abcdefg 1900;", 1);
        loads("person abcdefg 1900;" + "\n".repeat(780), 1);
        wrong("   \n 5", 1, 5);
        wrong("person\n\n  2", 1, 10);
    }

    private static void anyNumberOfClauses() {
        loads("", 0);
        loads(" ", 0);
        loads("\n", 0);
        loads("person al 1;", 1);
        loads("person al 1;person bo 1;union al bo 1;person cy 1;union cy al 1;", 3);
        loads(Texts.persons(16) + Texts.unions(12), 16);
        FamilyChart chart = RICH.load("").chart();
        due("the unions of no clause", chart.count(1), 0);
        due("the boxes of no clause", chart.count(3), 0);
        wrongBehind("", 1, "5", ";", "(", "a", "z", "perso", "persons", "people", "unio", "unions", "many", "9999");
        wrongBehind(TWO, 1, "5", ";", "(", "a", "perso", "persons", "unions", "first", "9999");
    }

    private static void clausesOfPersons() {
        wrongBehind("person ", 1, "5", ";", "(", "9999", "");
        wrongBehind("person al ", 1, "bo", ";", "-", "person", "");
        wrongBehind("person al ", 2, "2101", "9999", "100000");
        wrongBehind("person al 1 ", 1, "bo", "person", "5", "9999", ",", ":", "");
        loads("person person 1;", 1);
        loads("person union 1;person person 2;union union person 3;", 2);
    }

    private static void clausesOfUnions() {
        wrongBehind(TWO + "union ", 1, "5", ";", "-", "9999", "");
        wrongBehind(TWO + "union a ", 1, "5", ";", "-", "9999", "");
        wrongBehind(TWO + "union a b ", 1, "a", "b", "c", ";", "-", "");
        wrongBehind(TWO + "union a b ", 2, "2101", "9999");
        wrongBehind(TWO + "union a b 1 ", 1, "5", "9999", ",", "");
        wrongBehind(THREE + "union a b 1 c ", 1, "5", "9999", ",", "");
        loads(THREE + "union a b 1;", 3);
        loads(THREE + "union a b 1 c;", 3);
        due("no children", Checks.chartOf(THREE + "union a b 1;").children(0), 0);
        due("one child", Checks.chartOf(THREE + "union a b 1 c;").children(0), 4);
        FamilyChart all = Checks.chartOf(Texts.persons(16) + "union p b 1 a c d e f g h i j k l m n o;");
        due("all the others", all.children(0), 0x7ffd);
        FamilyChart order = Checks.chartOf(THREE + "union c a 1;");
        due("the first partner", order.union(0, 0), 2);
        due("the second partner", order.union(0, 1), 0);
    }

    private static void names() {
        loads("person a 1;", 1);
        loads("person abcdefgh 1;", 1);
        due("a name of eight letters", Checks.chartOf("person abcdefgh 1;").person(0, 4), 8);
        due("a name of one letter", Checks.chartOf("person a 1;").person(0, 4), 1);
        wrong("person abcdefghi 1;", 1, 7);
        wrong("person " + "a".repeat(300) + " 1;", 1, 7);
        loads("person abcdefgh 1;person abcdefg 1;person bcdefgh 1;person abcdefgi 1;", 4);
        wrong("person abcdefgh 1;person abcdefgh 1;", 4, 25);
        wrong(Texts.persons(15) + "person a 1;", 4, 11 * 15 + 7);
        wrong(Texts.persons(15) + "person o 1;", 4, 11 * 15 + 7);
    }

    private static void namesOfEarlierPersons() {
        wrong("person ab 1;person b 1;union a b 1;", 4, 29);
        wrong("person ab 1;person b 1;union abc b 1;", 4, 29);
        wrong("person ab 1;person b 1;union ab a 1;", 4, 32);
        wrong("person ab 1;person b 1;union ab b 1 a;", 4, 36);
        wrong("person a 1;union a b 1;person b 1;", 4, 19);
        wrong(TWO + "union a b 1 c;person c 1;", 4, 34);
        wrong("union", 1, 5);
        wrong("union a", 4, 6);
        // Names of the text before, which this one replaces, are no names here.
        wrong("union al bo 1;", 4, 6);
        loads("person al 1;", 1);
        loads(Texts.persons(16) + "union p o 1 a;", 16);
    }

    private static void firstTokenWithAnError() {
        wrong("person al 2101;;", 2, 10);
        wrong("person al 2101 2101", 2, 10);
        wrong("person a 1;person a 2101;", 4, 18);
        wrong(TWO + "union a a 9999 x", 5, 30);
        wrong(TWO + "union x x 9999", 4, 28);
        wrong(TWO + "union a b 2101 x", 2, 32);
        wrong(Texts.persons(16) + "person a 1;", 3, 176);
        wrong(Texts.persons(16) + "person 5", 3, 176);
        wrong(Texts.persons(14) + Texts.unions(12) + "union a a 1;", 3, 298);
        wrong("5 person al 1;", 1, 0);
        wrong(TWO + "union a b 1 a x 5", 5, 34);
    }

    private static void smallestCode() {
        // Out of range, and not allowed here.
        wrongBehind("person ", 1, "2101");
        wrongBehind("person al 1 ", 1, "2101");
        wrongBehind(TWO + "union a ", 1, "2101");
        wrongBehind("", 1, "99999999999999999999");
        // More than eight letters make no NAME, but a PERSON that is not known.
        wrongBehind("person ", 1, "abcdefghi");
        wrongBehind(TWO + "union ", 4, "abcdefghi");
        wrongBehind(TWO + "union a ", 4, "abcdefghi");
        wrongBehind(TWO + "union a b 1 ", 4, "abcdefghi");
        // A keyword too many that is not allowed here.
        wrongBehind(Texts.persons(15) + "person p ", 1, "person");
        wrongBehind(Texts.persons(14) + Texts.unions(11) + "union a m 1 ", 4, "union");
        // A partner of the union who has parents too, and an ancestor who has parents too.
        wrongBehind(Texts.persons(4) + "union a b 1 c;union c d 1 ", 5, "c");
        wrongBehind(Texts.persons(5) + "union a b 1 c;union c d 1 e;union e d 1 ", 5, "c");
    }

    // Each text that ends behind one of its tokens, and then with blanks behind it.
    private static void endsTooEarly() {
        String[] tokens = {"person", "al", "1", ";", "person", "bo", "2", ";", "person", "cy", "3", ";", "union", "al",
                "bo", "4", "cy", ";"};
        StringBuilder text = new StringBuilder();
        int persons = 0;
        for (String token : tokens) {
            text.append(token);
            if (token.equals(";")) {
                persons = Math.min(persons + 1, 3);
                loads(text.toString(), persons);
                loads(text + " \n", persons);
            } else {
                wrong(text.toString(), 1, text.length());
                wrong(text + " ", 1, text.length() + 1);
                wrong(text + "\n \n", 1, text.length() + 3);
            }
            text.append(' ');
        }
        wrong("person al 1;" + " ".repeat(700) + "person", 1, 718);
        wrong("person" + " ".repeat(794), 1, 800);
    }

    private static void outOfRange() {
        String[] numbers = {"2101", "2102", "3000", "9999", "10000", "99999", "100000", "1000000", "21000",
                "2147483647", "2147483648", "4294967295", "4294967296", "4294967297", "4294969396", "8589934592",
                "9223372036854775808",
                "18446744073709551616", "18446744073709551617", "340282366920938463463374607431768211456",
                "10000000000000000000000000000000000000000", "99999999999999999999999999999999999999999999999999"};
        for (String number : numbers) {
            wrong("person al " + number + ";", 2, 10);
            wrong(TWO + "union a b " + number + ";", 2, 32);
        }
        loads("person al 2100;person bo 0;union al bo 2100;", 2);
        loads("person al 2099;person bo 1;union al bo 0;", 2);
    }

    private static void keywordsTooMany() {
        String most = Texts.persons(16) + Texts.unions(12);
        loads(most, 16);
        wrong(most + "person", 3, most.length());
        wrong(most + "union", 3, most.length());
        wrong(most + " \nunion a b 1;", 3, most.length() + 2);
        wrong(most + "persons", 1, most.length());
        wrong(most + ";", 1, most.length());
        wrong(Texts.persons(16) + "person q 1;", 3, 176);
        loads(Texts.persons(15) + "person person 1;", 16);
        loads(Texts.persons(14) + "person person 1;person union 1;union person union 1;", 16);
        String unions = Texts.persons(15) + Texts.unions(12);
        loads(unions + "person p 1;", 16);
        wrong(unions + "person p 1;union a b 1;", 3, unions.length() + 11);
        wrong(unions + "person p 1;person q 1;", 3, unions.length() + 11);
        // What was read before does not count.
        loads(Texts.persons(16), 16);
        FamilyChart again = Scene.full().load("").chart();
        due("16 persons behind a text of 16", Checks.load(again, most), 16);
    }

    private static void namesThatAreUsed() {
        wrong("person al 1;person bo 1;person al 1;", 4, 31);
        wrong("person al 1;person bo 1;person bo 1;", 4, 31);
        wrong("person person 1;person person 1;", 4, 23);
        wrong(TWO + "union x b 1;", 4, 28);
        wrong(TWO + "union a x 1;", 4, 30);
        wrong(TWO + "union a b 1 x;", 4, 34);
        wrong(TWO + "union person b 1;", 4, 28);
        // Names of the chart that stands are free.
        loads("person al 1;person bo 1;", 2);
    }

    private static void wrongFamilies() {
        wrong(TWO + "union a a 1;", 5, 30);
        String child = THREE + "union a b 1 c;";
        wrong(child + "union a b 2;", 5, 55);
        wrong(child + "union b a 2;", 5, 55);
        wrong(child + "union a c 1 b;", 5, 59);
        wrong(child + "union c a 1 b;", 5, 59);
        wrong(child + "union a c 1 c;", 5, 59);
        wrong(child + "union a c 1 a;", 5, 59);
        wrong(THREE + "union a b 1 c c;", 5, 47);
        wrong(Texts.persons(4) + "union a b 1 c;union a d 1 c;", 5, 70);
        String ladder = Texts.persons(16) + Texts.ladder().substring(11 * 14, Texts.ladder().length() - 14);
        wrong(ladder + "union o m 1 a;", 5, ladder.length() + 12);
        wrong(ladder + "union m o 1 b;", 5, ladder.length() + 12);
        loads(ladder + "union o m 1 p;", 16);
        // A descendant is no ancestor; a person who is told later may be a parent.
        loads(THREE + "union c b 1 a;", 3);
        loads(Texts.persons(4) + "union c b 1 a;union d c 1 b;", 4);
        wrong(Texts.persons(4) + "union c b 1 a;union d a 1 b;", 5, 70);
    }

    public static void main(String[] args) {
        String tokens = "Tokens: a word is a maximal run of the letters 'a' to 'z'; a number is a maximal run of "
                + "decimal digits (leading zeros are allowed); every other byte except space (32) and line feed (10) is "
                + "a token by itself.";
        Checks.sentence(tokens, TextEdgesTest::words);
        Checks.sentence(tokens, TextEdgesTest::otherWords);
        Checks.sentence(tokens, TextEdgesTest::digits);
        Checks.sentence(tokens, TextEdgesTest::otherBytes);
        Checks.sentence("Spaces and line feeds may appear between tokens.", TextEdgesTest::blanksBetweenTokens);
        Checks.sentence("text: clause*", TextEdgesTest::anyNumberOfClauses);
        String clause = "clause: 'person' NAME year (0 to 2100) ';' | 'union' PERSON PERSON year (0 to 2100) PERSON* "
                + "';'";
        Checks.sentence(clause, TextEdgesTest::clausesOfPersons);
        Checks.sentence(clause, TextEdgesTest::clausesOfUnions);
        Checks.sentence("A NAME is a word of 1 to 8 letters that is not the name of an earlier person.",
                TextEdgesTest::names);
        Checks.sentence("A PERSON is a word: the name of an earlier person; the first two are the partners, the others "
                + "the children.", TextEdgesTest::namesOfEarlierPersons);
        Checks.sentence("The text is checked token by token, and the first token with an error determines the result.",
                TextEdgesTest::firstTokenWithAnError);
        Checks.sentence("If several codes apply to one token, the smallest one counts.", TextEdgesTest::smallestCode);
        Checks.sentence("1: the token is not allowed here (also a word of more than 8 letters as a NAME), or the text "
                + "ends too early (the position is then the length of the text).", TextEdgesTest::endsTooEarly);
        Checks.sentence("2: a number is out of range.", TextEdgesTest::outOfRange);
        Checks.sentence("3: the keyword of the 17th person or the 13th union", TextEdgesTest::keywordsTooMany);
        Checks.sentence("4: a NAME that is used already; a word as PERSON that is no name of a person.",
                TextEdgesTest::namesThatAreUsed);
        Checks.sentence("5: the second partner is the first one, or both are the partners of an earlier union; a child "
                + "who has parents, is a partner of this union, or is an ancestor of one of its partners.",
                TextEdgesTest::wrongFamilies);
        Checks.end("TextEdgesTest");
    }
}
