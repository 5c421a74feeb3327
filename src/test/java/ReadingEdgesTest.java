/** The boundary cases that promises 1 to 5 name, and how long an object is used: each sentence has a test of its own. */
public final class ReadingEdgesTest {
    private static final int MIN = Checks.MIN;
    private static final int MAX = Checks.MAX;
    private static final Scene RICH = Scene.rich();
    private static final Scene FED = Scene.richAndFed();
    private static final Scene FULL = Scene.full();
    private static final Scene EMPTY = Scene.empty();

    private static void due(String what, long got, long want) {
        Checks.due(what, got, want);
    }

    private static void calls512() {
        int feeds = (Texts.CROSSED.length() + 19) / 20;
        int swaps = 511 - feeds - 1;
        for (int asked = 0; asked < 4; asked++) {
            FamilyChart chart = Checks.chartOf(Texts.CROSSED);
            for (int i = 0; i < swaps; i++) {
                chart.swap(0, 0, 1);
            }
            if (asked == 0) {
                due("undoCount as call 512", chart.undoCount(), 10);
            } else if (asked == 1) {
                due("place as call 512", chart.place(0), swaps % 2);
            } else if (asked == 2) {
                due("undo as call 512", chart.undo(), 9);
            } else {
                due("crossings as call 512", chart.crossings(), 1);
            }
        }
    }

    private static void withoutPersons() {
        FamilyChart chart = new FamilyChart();
        for (int what = 0; what < 7; what++) {
            due("count " + what, chart.count(what), 0);
        }
        due("crossings", chart.crossings(), 0);
        due("width", chart.width(), 0);
        due("errorPosition", chart.errorPosition(), -1);
        due("undoCount", chart.undoCount(), 0);
        due("no text of format", chart.formattedByte(0), -1);
        due("feed", chart.feed(0, 0, 0, 0, 0), 20);
        Checks.refused("undo", EMPTY, FamilyChart::undo, -1);
        Checks.refused("restoreSnapshot", EMPTY, c -> c.restoreSnapshot() ? 1 : 0, 0);
        Checks.refusedArgument("load of a byte", EMPTY, c -> c.load(1));
        Checks.refusedArgument("query of a byte", EMPTY, c -> c.query(1));
        // What one object does is nothing to another one.
        FamilyChart other = Checks.chartOf(Texts.FAMILY);
        due("persons of another one", other.count(0), 5);
        due("persons", chart.count(0), 0);
    }

    private static void fourBytesEach() {
        FamilyChart chart = new FamilyChart();
        due("twenty bytes", chart.feed(Checks.word("pers", 0), Checks.word("on a", 0), Checks.word("bcde", 0),
                Checks.word("fg 1", 0), Checks.word("987;", 0)), 20);
        due("load", chart.load(20), 1);
        Checks.due("the name", Checks.printed(chart, 0, 0, 10), "[abcdefg]");
        due("the year", chart.person(0, 0), 1987);
        // The first byte that is no blank tells where it stands.
        int[] words = {0x20202020, 0x20202020, 0x20202020, 0x20202020, 0x20202020};
        for (int i = 0; i < 20; i++) {
            int[] fed = words.clone();
            fed[i / 4] += 0xdf << 8 * (3 - i % 4);
            FamilyChart signs = new FamilyChart();
            signs.feed(fed[0], fed[1], fed[2], fed[3], fed[4]);
            due("byte 255 at " + i, signs.load(20), -11);
            due("its position", signs.errorPosition(), i);
        }
        due("the least number", loadOf(MIN), -11);
        due("the greatest number", loadOf(MAX), -11);
        due("minus one", loadOf(-1), -11);
    }

    private static int loadOf(int word) {
        FamilyChart chart = new FamilyChart();
        chart.feed(word, 0x20202020, 0x20202020, 0x20202020, 0x20202020);
        int answer = chart.load(20);
        due("the position of " + word, chart.errorPosition(), 0);
        return answer;
    }

    private static void roomFor800() {
        FamilyChart chart = new FamilyChart();
        for (int i = 1; i <= 40; i++) {
            due("feed " + i, chart.feed(0x20202020, 0x20202020, 0x20202020, 0x20202020, 0x20202020), 20 * i);
        }
        due("feed 41", chart.feed(0, 0, 0, 0, 0), -1);
        due("feed 42", chart.feed(0, 0, 0, 0, 0), -1);
        due("nothing is appended", chart.load(800), 0);
        due("the buffer is empty then", chart.feed(0, 0, 0, 0, 0), 20);
        Checks.refused("feed of a full buffer", FULL, c -> c.feed(MIN, -1, 0, 1, MAX), -1);
        Checks.refusedArgument("load of 801", FULL, c -> c.load(801));
        due("load of 800", FULL.chart().load(800), 16);
        Scene nearly = EMPTY.feed(Texts.persons(2) + " ".repeat(758));
        due("feed of 780", nearly.chart().feed(0, 0, 0, 0, 0), 800);
        due("feed behind 800 that were read", FULL.then(c -> c.load(800)).chart().feed(0, 0, 0, 0, 0), 20);
        due("feed behind 800 that were wrong", FULL.then(c -> c.load(181)).chart().feed(0, 0, 0, 0, 0), 20);
    }

    private static void replacesEverything() {
        FamilyChart chart = FED.chart();
        due("load", chart.load(42), 2);
        due("persons", chart.count(0), 2);
        due("unions", chart.count(1), 1);
        due("rows", chart.count(2), 1);
        due("the first year", chart.person(0, 0), 5);
        due("plain order", chart.place(0), 0);
        due("plain order", chart.place(1), 1);
        due("undoCount", chart.undoCount(), 0);
        due("undo", chart.undo(), -1);
        due("no snapshot", chart.restoreSnapshot() ? 1 : 0, 0);
        due("errorPosition", chart.errorPosition(), -1);
        due("the buffer", chart.feed(0, 0, 0, 0, 0), 20);
        // But for the text of format, a new object with the same text answers the same.
        Scene again = RICH.load(Texts.CROSSED).format(0, 0, 10);
        Checks.due("what is left", Scene.of(Texts.CROSSED).format(0, 0, 10).portrait().firstChange(again.portrait()), "");
        Scene full = FULL.then(c -> c.load(0)).load(Texts.ladder()).format(0, 0, 10);
        Checks.due("what is left", Scene.of(Texts.ladder()).format(0, 0, 10).portrait().firstChange(full.portrait()), "");
        FamilyChart none = FED.chart();
        due("load of nothing", none.load(0), 0);
        due("persons", none.count(0), 0);
        due("undoCount", none.undoCount(), 0);
        due("no snapshot", none.restoreSnapshot() ? 1 : 0, 0);
        due("the buffer", none.feed(0, 0, 0, 0, 0), 20);
    }

    private static long lookedAt(FamilyChart chart) {
        chart.width();
        chart.inbreeding();
        return chart.improve(1) + chart.cutBoxes(10);
    }

    // Whatever stood before, greater or smaller, a text makes the same chart, and so do the operations behind it.
    private static void nothingIsLeft() {
        String[] texts = {"", Texts.persons(1), Texts.persons(16) + Texts.unions(12), Texts.FAMILY, Texts.CROSSED,
                Texts.ladder(), Texts.ladderUpwards(), Texts.zigzag(), Texts.widest(), Texts.line(),
                Texts.persons(4) + "union a c 1;union b d 1;", Texts.persons(4) + "union a c 1;"};
        for (String text : texts) {
            Portrait loaded = Scene.of(text).portrait();
            Portrait improved = Scene.of(text).then(c -> c.improve(2)).portrait();
            Portrait arranged = Scene.of(text).then(FamilyChart::arrange).portrait();
            for (String before : texts) {
                String what = "'" + text + "' behind '" + before + "'";
                Scene again = Scene.of(before).then(ReadingEdgesTest::lookedAt).load(text);
                Checks.due("load of " + what, loaded.firstChange(again.portrait()), "");
                Checks.due("improve of " + what, improved.firstChange(again.then(c -> c.improve(2)).portrait()), "");
                Checks.due("arrange of " + what, arranged.firstChange(again.then(FamilyChart::arrange).portrait()), "");
            }
        }
    }

    private static void negativeCodes() {
        Checks.refusedText("union", RICH, 1, 5);
        Checks.refusedText("person a 2101;", RICH, 2, 9);
        Checks.refusedText(Texts.persons(17), RICH, 3, 176);
        Checks.refusedText("person a 1;person a 1;", RICH, 4, 18);
        Checks.refusedText("person a 1;union a a 1;", RICH, 5, 19);
        Checks.refusedText("union", EMPTY, 1, 5);
        Checks.refusedText("person a 1;union a a 1;", EMPTY, 5, 19);
        Scene ladder = Scene.of(Texts.ladder()).swap(3, 0, 1).save().swap(4, 0, 1);
        Checks.refusedText(Texts.persons(3) + "union a b 1 c;union c a 1 c;", ladder, 5, 59);
        Checks.refusedText(Texts.persons(16) + Texts.unions(12) + ";", ladder, 1, 320);
    }

    private static void lengthsOfLoad() {
        for (int length : new int[] {-1, 61, 80, 800, 801, MIN, MIN + 1, MAX}) {
            Checks.refusedArgument("load of " + length, FED, c -> c.load(length));
        }
        for (int length : new int[] {-1, 801, 820, MIN, MAX}) {
            Checks.refusedArgument("load of " + length, FULL, c -> c.load(length));
        }
        due("all that is fed", FED.chart().load(60), 2);
        due("all but the blanks behind", FED.chart().load(42), 2);
        due("the last token is missing", FED.chart().load(41), -11);
        due("a part of it", FED.chart().load(13), 1);
        due("a part that cuts a token", FED.chart().load(12), -11);
        due("nothing", FED.chart().load(0), 0);
        FamilyChart cut = EMPTY.feed("person a 123456789012345678;").chart();
        due("a year that is cut", cut.load(12), -11);
        due("its position", cut.errorPosition(), 12);
        FamilyChart name = EMPTY.feed("person abcdefghijklmnop").chart();
        due("a name that is cut", name.load(15), -11);
        due("its position", name.errorPosition(), 15);
        FamilyChart longer = EMPTY.feed("person abcdefghijklmnop").chart();
        due("a name that is not", longer.load(16), -11);
        due("its position", longer.errorPosition(), 7);
        due("a part drops the rest", FED.then(c -> c.load(13)).chart().feed(0, 0, 0, 0, 0), 20);
    }

    private static void positions() {
        due("ahead of a call", EMPTY.chart().errorPosition(), -1);
        due("of a query", RICH.chart().errorPosition(), 10);
        due("behind a good load", RICH.load("person a 1;").chart().errorPosition(), -1);
        due("behind a good query", RICH.query("many 0=0").chart().errorPosition(), -1);
        due("behind a bad load", RICH.load("person").chart().errorPosition(), 6);
        due("at 0", RICH.load("x").chart().errorPosition(), 0);
        due("the greatest one", RICH.load(" ".repeat(794) + "person").chart().errorPosition(), 800);
        due("the greatest one of a query", RICH.query("many" + " ".repeat(196)).chart().errorPosition(), 200);
        due("the first byte of a token", RICH.load("person a   210101;").chart().errorPosition(), 11);
        for (int length : new int[] {-1, 61, MIN, MAX}) {
            Scene thrown = FED.then(c -> c.load(length)).then(c -> c.query(length));
            due("behind calls that throw", thrown.chart().errorPosition(), 10);
        }
        due("behind a query that throws", FULL.then(c -> c.query(201)).chart().errorPosition(), -1);
        due("behind an undo", RICH.then(FamilyChart::undo).chart().errorPosition(), 10);
        due("behind a feed", FED.chart().errorPosition(), 10);
        due("behind a restored snapshot", RICH.then(c -> c.restoreSnapshot() ? 1 : 0).chart().errorPosition(), 10);
    }

    private static void counts() {
        int[] rich = {6, 3, 3, 7, 1, 3, 2};
        int[] full = {16, 12, 1, 16, 0, 16, 16};
        int[] ladder = {14, 12, 13, 25, 11, 2, 1};
        int[] widest = {16, 12, 2, 27, 11, 2, 14};
        for (int what = 0; what < 7; what++) {
            due("count " + what, RICH.chart().count(what), rich[what]);
            due("count " + what + " of FULL", FULL.chart().count(what), full[what]);
            due("count " + what + " of the ladder", Checks.chartOf(Texts.ladder()).count(what), ladder[what]);
            due("count " + what + " of the widest", Checks.chartOf(Texts.widest()).count(what), widest[what]);
            due("count " + what + " of nobody", EMPTY.chart().count(what), 0);
        }
        for (int what : new int[] {-1, 7, 8, MIN, MAX}) {
            Checks.refused("count " + what, RICH, c -> c.count(what), -1);
            Checks.refused("count " + what, EMPTY, c -> c.count(what), -1);
        }
    }

    public static void main(String[] args) {
        Checks.sentence("An object is used for at most 512 calls after it has been made; what later calls answer is "
                + "free.", ReadingEdgesTest::calls512);
        Checks.promise(1, "Creates a chart without persons.", ReadingEdgesTest::withoutPersons);
        Checks.promise(2, "Appends 20 bytes to the buffer: the four bytes of each parameter, the most significant byte "
                + "first.", ReadingEdgesTest::fourBytesEach);
        Checks.promise(2, "Returns the number of bytes in the buffer; NONE if it would exceed 800, and then nothing is "
                + "appended.", ReadingEdgesTest::roomFor800);
        String reads = "Reads the first bytes of the buffer as a text, which replaces everything; all rows have the "
                + "plain order, and the undo history and the snapshot are discarded. The buffer is empty afterwards, "
                + "also after an error.";
        Checks.promise(3, reads, ReadingEdgesTest::replacesEverything);
        Checks.promise(3, reads, ReadingEdgesTest::nothingIsLeft);
        Checks.promise(3, "Returns the number of persons; -10 minus the error code if the text has an error (then only "
                + "the buffer and the error position change).", ReadingEdgesTest::negativeCodes);
        Checks.promise(3, "Throws `IllegalArgumentException` if length is negative or greater than the number of bytes "
                + "in the buffer (nothing changes)", ReadingEdgesTest::lengthsOfLoad);
        Checks.promise(4, "Returns the position of the first byte of the token with the error, for the most recent call "
                + "of load or query that read the buffer; NONE if that text had no error, or if there was no such "
                + "call.", ReadingEdgesTest::positions);
        Checks.promise(5, "Returns the count; NONE if what is out of range.", ReadingEdgesTest::counts);
        Checks.end("ReadingEdgesTest");
    }
}
