/** The boundary cases that the document names under 'Input text', in a query: each sentence has a test of its own. */
public final class QueryEdgesTest {
    private static final Scene RICH = Scene.rich();
    // al 1900, bo 1901, cy 1930, di 1932, ed 1960, otto 7, who is a child of al and of ed, his grandchild.
    private static final Scene FAMILY = Scene.of(Texts.FAMILY + "person otto 7;union al ed 1980 otto;");
    private static final int[] SIGNS = {0, 1, 9, 11, 13, 31, 33, 47, 58, 59, 64, 65, 90, 91, 96, 123, 127, 128, 255};

    private static void due(String what, long got, long want) {
        Checks.due(what, got, want);
    }

    // A query answers, and changes nothing but the buffer and the error position.
    private static void asked(Scene scene, String text, int want) {
        FamilyChart chart = scene.chart();
        due(text, Checks.outcome(() -> Checks.query(chart, text)), want);
        due("the error position of " + text, chart.errorPosition(), -1);
        due("the buffer behind " + text, chart.feed(0, 0, 0, 0, 0), 20);
        String changed = scene.portrait().firstChangeOfChart(scene.query(text).portrait());
        Checks.due("what was changed by " + text, changed, "");
    }

    private static void asked(String text, int want) {
        asked(FAMILY, text, want);
    }

    private static void wrong(String text, int code, int position) {
        Checks.refusedQuery(text, RICH, code, position);
    }

    // Each of the tokens is an error behind the text ahead.
    private static void wrongBehind(String ahead, int code, String... tokens) {
        for (String token : tokens) {
            wrong(ahead + token, code, ahead.length());
        }
    }

    private static void tokens() {
        asked("many(year<1901)", 2);
        asked("many\nnot\n(\nyear\n<\n1901\n)\nand\n1\n=\n1\n", 4);
        asked("many1<2", 6);
        asked("many 1<2or 2<1", 6);
        asked("many 0001=1and 1=0000000001", 6);
        asked("  \n first 0=0 \n ", 0);
        wrong("manyyear<1901", 1, 0);
        wrong("many notyear<1901", 1, 5);
        wrong("many year<1901 andyear>0", 1, 15);
        wrong("many year<19 01", 1, 13);
        wrong("many year<>1901", 1, 10);
        for (int code : SIGNS) {
            String sign = String.valueOf((char) code);
            wrong("many" + sign + "year<1901", 1, 4);
            wrong("many year<1901" + sign, 1, 14);
        }
    }

    // A word that differs from a keyword in one letter alone, or by one letter less, is another word.
    private static void otherWords() {
        String[] ahead = {"", "", "many ", "many 0=0 ", "many 0=0 ", "many ", "many ", "many ", "many ", "many ", "many ",
                "many "};
        String[] words = {"many", "first", "not", "and", "or", "person", "year", "generation", "unions", "children",
                "ancestors", "descendants"};
        String[] behind = {" 0=0", " 0=0", " 0=0", " 0=0", " 0=0", "=0", "=0", "=0", "=0", "=0", "=0", "=0"};
        for (int word = 0; word < words.length; word++) {
            for (int i = 0; i < words[word].length(); i++) {
                String start = words[word].substring(0, i);
                String end = words[word].substring(i + 1);
                char letter = (char) (words[word].charAt(i) == 'z' ? 'a' : words[word].charAt(i) + 1);
                wrong(ahead[word] + start + letter + end + behind[word], 1, ahead[word].length());
                if (start.length() + end.length() > 0) {
                    wrong(ahead[word] + start + end + behind[word], 1, ahead[word].length());
                }
            }
            wrong(ahead[word] + words[word] + "x" + behind[word], 1, ahead[word].length());
        }
    }

    private static void manyOrFirst() {
        asked("many 0=0", 6);
        asked("first 0=0", 0);
        wrongBehind("", 1, "5", "(", ";", "man", "manys", "mani", "firs", "firsts", "year", "not", "person",
                "100000", "");
        wrongBehind("many ", 1, "many", "first", "and", "or", ")", "<", "=", ">", ";", "");
        wrongBehind("first ", 1, "many", "first", "and", "or", ")", "<", "=", ">", ";", "");
    }

    private static void conjunctions() {
        asked("many person=0 or person=1 and person=2", 1);
        asked("many person=1 and person=2 or person=0", 1);
        asked("many person=0 or person=1 or person=2 or person=5", 4);
        asked("many person<4 and person>0 and year<1931", 2);
        asked("many not person=0 and person<2", 1);
        asked("many not person=0 or person<2", 6);
        asked("many not not person=0", 1);
        asked("many (person=0 or person=1) and person>0", 1);
        asked("many not (person=0 or person=1)", 4);
        asked("many ((person=0))", 1);
        wrongBehind("many year=5 ", 1, "5", "year", "(", ")", "not", "=", "<", "many", ";", "!", "100000");
        wrongBehind("many year=5 and ", 1, "and", "or", ")", "=", "");
        wrongBehind("many year=5 or ", 1, "and", "or", ")", "=", "");
        wrongBehind("many not ", 1, "and", "or", ")", "=", "");
        wrongBehind("many (", 1, "and", "or", ")", "=", "");
        wrongBehind("many (year=5 ", 1, "5", "year", "(", "not", "=", ";", "");
        wrongBehind("many (year=5) ", 1, "5", "year", "(", ")", "not", "=", ";");
        wrongBehind("many not year ", 1, "and", ")", "");
    }

    private static void comparisons() {
        asked("many year<1900", 1);
        asked("many year<1901", 2);
        asked("many year=1900", 1);
        asked("many year=1899", 0);
        asked("many year>1960", 0);
        asked("many year>1959", 1);
        asked("many 1900<year", 4);
        asked("many 1900=year", 1);
        asked("many 1900>year", 1);
        asked("many year=year", 6);
        asked("many year<year", 0);
        asked("many year>year", 0);
        wrongBehind("many year ", 1, "5", "year", "and", "or", "(", ")", "not", ";", "!", "100000", "");
        wrongBehind("many 5 ", 1, "5", "year", "and", "or", "(", ")", "not", ";", "!", "100000", "");
        wrongBehind("many year=", 1, "=", "<", ">", "(", ")", "not", "and", "or", "many", ";", "");
        wrongBehind("many year<", 1, "=", "<", ">", "(", ")", "not", "and", "or", "many", ";", "");
    }

    private static void values() {
        asked("many 0<1", 6);
        asked("many 0=0", 6);
        asked("many 99999>99998", 6);
        asked("many 99999=99999", 6);
        asked("many person<99999", 6);
        asked("many " + "0".repeat(150) + "99999=99999", 6);
        String[] numbers = {"100000", "100001", "999999", "1000000", "2147483647", "2147483648", "4294967295",
                "4294967296", "4294967297", "4295067295", "9223372036854775808", "18446744073709551616", "18446744073709551617",
                "340282366920938463463374607431768211456", "99999999999999999999999999999999999999999999999"};
        for (String number : numbers) {
            wrongBehind("many ", 2, number, number + "=0");
            wrongBehind("many year=", 2, number);
            wrongBehind("many not year=", 2, number);
        }
        wrongBehind("many ", 1, "name", "years", "yea", "persons", "perso", "union", "child", "ancestor", "level", "a");
        wrongBehind("many 0=", 1, "name", "years", "yea", "persons", "perso", "union", "child", "ancestor", "level",
                "a");
    }

    private static void properties() {
        asked("first person=5", 5);
        asked("many person=6", 0);
        asked("first year=7", 5);
        asked("many generation=0", 2);
        asked("many generation=1", 2);
        asked("first generation=2", 4);
        asked("first generation=3", 5);
        asked("many generation=4", 0);
        asked("many unions=0", 1);
        asked("many unions=1", 4);
        asked("many unions=2", 1);
        asked("many children=0", 1);
        asked("many children=1", 3);
        asked("many children=2", 1);
        asked("first children=3", 0);
        asked("many ancestors=0", 2);
        asked("many ancestors=2", 2);
        asked("first ancestors=4", 4);
        asked("first ancestors=5", 5);
        asked("many descendants=0", 1);
        asked("many descendants=1", 1);
        asked("many descendants=2", 2);
        asked("many descendants=4", 2);
        Scene ladder = Scene.of(Texts.ladder());
        asked(ladder, "first ancestors=13", 13);
        asked(ladder, "many descendants=12", 2);
        asked(ladder, "first generation=12", 13);
        Scene widest = Scene.of(Texts.widest());
        asked(widest, "first unions=12", 0);
        asked(widest, "many children=14", 2);
        asked(Scene.of(Texts.persons(16) + Texts.unions(12)), "first unions=12", 0);
    }

    private static void everyPerson() {
        asked(Scene.empty(), "many 0=0", 0);
        asked(Scene.empty(), "first 0=0", -1);
        asked(Scene.empty(), "many not 0=0", 0);
        asked(Scene.of(Texts.persons(1)), "many 0=0", 1);
        asked(Scene.of(Texts.persons(1)), "first 0=0", 0);
        asked(Scene.of(Texts.persons(16)), "many 0=0", 16);
        asked(Scene.of(Texts.persons(16)), "many not 0=1", 16);
        asked(Scene.of(Texts.persons(16)), "first person>14", 15);
        asked(Scene.of(Texts.persons(16)), "first person>15", -1);
        // Behind 16 persons there is none of these left.
        asked(Scene.of(Texts.persons(16)).load(Texts.persons(2)), "many not 0=1", 2);
    }

    private static void openOnes() {
        String last = "year=1900";
        String[] six = {"not not not not not not ", "((((((", "not(not(not(", "not not not(((", "((not not(("};
        String[] ends = {"", "))))))", ")))", ")))", "))))"};
        for (int i = 0; i < six.length; i++) {
            String good = "many " + six[i] + last + ends[i];
            asked(good, i == 2 || i == 3 ? 5 : 1);
            asked(good + " and " + six[i] + last + ends[i], i == 2 || i == 3 ? 5 : 1);
            asked(good + " or " + six[i] + last + ends[i], i == 2 || i == 3 ? 5 : 1);
            wrongBehind("many " + six[i], 3, "not", "(", "not year=1900", "(year=1900)", "((((((((((((((((");
            wrongBehind(good + " or " + six[i], 3, "not", "(");
        }
        asked("many (((((year=1900)))or(year=1901)))", 2);
        asked("many (((((not year=1900 and not year=1901)))))", 4);
        asked("many not year=7 and not year=1 and not year=2 and not year=3 and not year=4 and not year=5 and not "
                + "year=6 and not year=8", 5);
        asked("many (0=0)and(0=0)and(0=0)and(0=0)and(0=0)and(0=0)and(0=0)and(0=0)", 6);
        asked("many not(0=1)and not(0=1)and not(0=1)and not(0=1)and not(0=1)and not(0=1)and not(0=1)", 6);
        // The not ends with its factor, the parenthesis only behind it.
        asked("many (((((not 0=1)))))", 6);
        wrong("many (((((not 0=1 and not not 0=1)))))", 3, 26);
        asked("many (((((not 0=1)and not 0=1))))", 6);
        wrong("many ((((((0=0)and (0=0)and((0=0))))))", 3, 28);
    }

    private static void smallestCode() {
        // A seventh one that is not allowed here.
        wrong("many ((((((year(", 1, 15);
        wrong("many ((((((year=(", 1, 16);
        wrong("many ((((((year=0(", 1, 17);
        wrong("many ((((((year=0 not", 1, 18);
        wrong("many not not not not not not year not", 1, 34);
        // A number out of range that is not allowed here.
        wrong("100000", 1, 0);
        wrong("many year 100000", 1, 10);
        wrong("many year=0 100000", 1, 12);
        wrong("many (year=0 100000", 1, 13);
    }

    private static void firstTokenWithAnError() {
        wrong("many year=100000 )", 2, 10);
        wrong("many year=0 ) 100000", 1, 12);
        wrong("many (((((((100000", 3, 11);
        wrong("many ((((((100000 (", 2, 11);
        wrong("much year=100000", 1, 0);
        wrong("many 100000=100000", 2, 5);
    }

    private static void endsTooEarly() {
        String[] tokens = {"many", "not", "(", "year", "<", "1901", "and", "3", "=", "person", ")", "or", "unions", ">",
                "0"};
        StringBuilder text = new StringBuilder();
        for (int i = 0; i < tokens.length; i++) {
            text.append(tokens[i]);
            if (i == 10) {
                asked(text.toString(), 6);
                asked(text + " \n", 6);
            } else if (i == 14) {
                asked(text.toString(), 6);
            } else {
                wrong(text.toString(), 1, text.length());
                wrong(text + " ", 1, text.length() + 1);
                wrong(text + "\n \n", 1, text.length() + 3);
            }
            text.append(' ');
        }
        wrong("", 1, 0);
        wrong("   ", 1, 3);
        wrong("many" + " ".repeat(196), 1, 200);
        wrong("many 0=0 and" + " ".repeat(187) + "0", 1, 200);
    }

    public static void main(String[] args) {
        Checks.sentence("every other byte except space (32) and line feed (10) is a token by itself.",
                QueryEdgesTest::tokens);
        Checks.sentence("In the grammars terminals are quoted", QueryEdgesTest::otherWords);
        Checks.sentence("query: ('many' | 'first') test", QueryEdgesTest::manyOrFirst);
        String test = "test: conjunction ('or' conjunction)*. conjunction: factor ('and' factor)*. factor: 'not' factor "
                + "| '(' test ')' | value ('<' | '=' | '>') value.";
        Checks.sentence(test, QueryEdgesTest::conjunctions);
        Checks.sentence(test, QueryEdgesTest::comparisons);
        String value = "value: a number from 0 to 99999, or one of these properties of a person: 'person' (the "
                + "number), 'year', 'generation', 'unions', 'children' (in all unions), 'ancestors', 'descendants' (how many)";
        Checks.sentence(value, QueryEdgesTest::values);
        Checks.sentence(value, QueryEdgesTest::properties);
        Checks.sentence("Reads the first bytes of the buffer as a query and evaluates it for every person in ascending "
                + "order.", QueryEdgesTest::everyPerson);
        Checks.sentence("in a query a 'not' or '(' that would be the seventh one open at the same time. A 'not' is "
                + "open until the end of its factor.", QueryEdgesTest::openOnes);
        Checks.sentence("If several codes apply to one token, the smallest one counts.", QueryEdgesTest::smallestCode);
        Checks.sentence("The text is checked token by token, and the first token with an error determines the result.",
                QueryEdgesTest::firstTokenWithAnError);
        Checks.sentence("1: the token is not allowed here (also a word of more than 8 letters as a NAME), or the text "
                + "ends too early (the position is then the length of the text).", QueryEdgesTest::endsTooEarly);
        Checks.end("QueryEdgesTest");
    }
}
