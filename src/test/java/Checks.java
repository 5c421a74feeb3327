import java.util.NoSuchElementException;

/** What the tests share: answers that are due, calls that must throw, and texts for the byte buffer. */
final class Checks {
    interface Call {
        long answer();
    }

    /** A call on a chart that the one who asks chooses. */
    interface Ask {
        long of(FamilyChart chart);
    }

    static final long NO_ELEMENT = Long.MIN_VALUE;
    static final long BAD_ARGUMENT = Long.MIN_VALUE + 1;
    static final long OTHER_EXCEPTION = Long.MIN_VALUE + 2;
    static final int MIN = Integer.MIN_VALUE;
    static final int MAX = Integer.MAX_VALUE;

    private static final int MOST_TOLD = 100;
    private static final long LONGEST_MILLIS = 600_000;

    private static int wrong = 0;
    private static int made = 0;
    private static int sentences = 0;
    private static String about = "";

    static {
        endWhatNeverEnds();
    }

    private Checks() {
    }

    // A call that never ends is a fault too, and must not keep the script that runs the tests waiting.
    private static void endWhatNeverEnds() {
        Thread watch = new Thread(() -> {
            try {
                Thread.sleep(LONGEST_MILLIS);
            } catch (InterruptedException e) {
                return;
            }
            System.out.println("some call does not end: " + about);
            Runtime.getRuntime().halt(1);
        });
        watch.setDaemon(true);
        watch.start();
    }

    /** A test of its own for a sentence of the document, told in the document's words. */
    static void sentence(String words, Runnable test) {
        int before = made;
        about = words;
        sentences++;
        try {
            test.run();
        } catch (RuntimeException e) {
            tell("the test was left with " + e);
        }
        if (made == before) {
            tell("nothing was looked at");
        }
        about = "";
    }

    /** The same for a sentence of a promise. */
    static void promise(int number, String words, Runnable test) {
        sentence("Promise " + number + ": " + words, test);
    }

    private static void tell(String what) {
        wrong++;
        if (wrong <= MOST_TOLD) {
            System.out.println((about.isEmpty() ? "" : "\"" + about + "\": ") + what);
        }
    }

    static long outcome(Call call) {
        try {
            return call.answer();
        } catch (NoSuchElementException e) {
            return NO_ELEMENT;
        } catch (IllegalArgumentException e) {
            return BAD_ARGUMENT;
        } catch (RuntimeException e) {
            System.out.println("unexpected " + e);
            return OTHER_EXCEPTION;
        }
    }

    static void due(String what, long got, long want) {
        due("", what, got, want);
    }

    static void due(String run, String what, long got, long want) {
        made++;
        if (got != want) {
            tell(run + " " + what + " answered " + told(got) + ", due is " + told(want));
        }
    }

    static void due(String what, String got, String want) {
        made++;
        if (!got.equals(want)) {
            tell(what + " answered '" + got + "', due is '" + want + "'");
        }
    }

    static void noElement(String what, Call call) {
        due(what, outcome(call), NO_ELEMENT);
    }

    static void badArgument(String what, Call call) {
        due(what, outcome(call), BAD_ARGUMENT);
    }

    /** The call answers what is due, a refusal mostly, and nothing at all has changed. */
    static void refused(String what, Scene scene, Ask ask, long want) {
        FamilyChart chart = scene.chart();
        due(what, outcome(() -> ask.of(chart)), want);
        made++;
        String changed = scene.portrait().firstChange(scene.then(ask).portrait());
        if (!changed.isEmpty()) {
            tell(what + " changed " + changed);
        }
    }

    static void refusedElement(String what, Scene scene, Ask ask) {
        refused(what, scene, ask, NO_ELEMENT);
    }

    static void refusedArgument(String what, Scene scene, Ask ask) {
        refused(what, scene, ask, BAD_ARGUMENT);
    }

    /** The text has the error at the position: the buffer is empty then, and nothing else has changed. */
    static void refusedText(String text, Scene scene, int code, int position) {
        refusedReading("load", text, scene, chart -> load(chart, text), -10 - code, position);
    }

    static void refusedQuery(String text, Scene scene, int code, int position) {
        refusedReading("query", text, scene, chart -> query(chart, text), FamilyChart.HIDDEN - code, position);
    }

    private static void refusedReading(String name, String text, Scene scene, Ask ask, int want, int position) {
        String what = name + " of '" + text + "'";
        FamilyChart chart = scene.chart();
        due(what, outcome(() -> ask.of(chart)), want);
        due("the error position of " + what, chart.errorPosition(), position);
        due("the buffer behind " + what, chart.feed(0, 0, 0, 0, 0), 20);
        made++;
        String changed = scene.portrait().firstChangeOfChart(scene.then(ask).portrait());
        if (!changed.isEmpty()) {
            tell(what + " changed " + changed);
        }
    }

    private static String told(long value) {
        if (value == NO_ELEMENT) {
            return "NoSuchElementException";
        }
        if (value == BAD_ARGUMENT) {
            return "IllegalArgumentException";
        }
        return value == OTHER_EXCEPTION ? "another exception" : Long.toString(value);
    }

    static void end(String name) {
        String told = sentences == 0 ? "" : sentences + " sentences, ";
        System.out.println(name + ": " + told + made + " answers, " + wrong + " of them not as due");
        if (wrong != 0 || made == 0) {
            System.exit(1);
        }
    }

    /** Feeds the text, filled up with spaces, and returns its own length. */
    static int feed(FamilyChart chart, String text) {
        StringBuilder padded = new StringBuilder(text);
        while (padded.length() % 20 != 0) {
            padded.append(' ');
        }
        for (int i = 0; i < padded.length(); i += 20) {
            chart.feed(word(padded, i), word(padded, i + 4), word(padded, i + 8), word(padded, i + 12),
                    word(padded, i + 16));
        }
        return text.length();
    }

    static int word(CharSequence text, int from) {
        return text.charAt(from) << 24 | text.charAt(from + 1) << 16 | text.charAt(from + 2) << 8
                | text.charAt(from + 3);
    }

    static int load(FamilyChart chart, String text) {
        return chart.load(feed(chart, text));
    }

    static int query(FamilyChart chart, String text) {
        return chart.query(feed(chart, text));
    }

    static FamilyChart chartOf(String text) {
        FamilyChart chart = new FamilyChart();
        if (load(chart, text) < 0) {
            due("loading " + text, chart.errorPosition(), FamilyChart.NONE);
        }
        return chart;
    }

    static String printed(FamilyChart chart, int line, int strip, int width) {
        int length = chart.format(line, strip, width);
        StringBuilder text = new StringBuilder();
        for (int i = 0; i < length; i++) {
            text.append((char) chart.formattedByte(i));
        }
        due("the byte behind the text", chart.formattedByte(length), FamilyChart.NONE);
        return text.toString();
    }
}
