import java.util.NoSuchElementException;

/** What the tests share: answers that are due, calls that must throw, and texts for the byte buffer. */
final class Checks {
    interface Call {
        long answer();
    }

    static final long NO_ELEMENT = Long.MIN_VALUE;
    static final long BAD_ARGUMENT = Long.MIN_VALUE + 1;
    static final long OTHER_EXCEPTION = Long.MIN_VALUE + 2;

    private static final int MOST_TOLD = 100;

    private static int wrong = 0;
    private static int made = 0;

    private Checks() {
    }

    static long outcome(Call call) {
        try {
            return call.answer();
        } catch (NoSuchElementException e) {
            return NO_ELEMENT;
        } catch (IllegalArgumentException e) {
            return BAD_ARGUMENT;
        } catch (RuntimeException e) {
            System.out.println("unexpected " + e);
            return OTHER_EXCEPTION;
        }
    }

    static void due(String what, long got, long want) {
        due("", what, got, want);
    }

    static void due(String run, String what, long got, long want) {
        made++;
        if (got != want) {
            wrong++;
            if (wrong <= MOST_TOLD) {
                System.out.println(run + " " + what + " answered " + told(got) + ", due is " + told(want));
            }
        }
    }

    static void due(String what, String got, String want) {
        made++;
        if (!got.equals(want)) {
            wrong++;
            System.out.println(what + " answered '" + got + "', due is '" + want + "'");
        }
    }

    static void noElement(String what, Call call) {
        due(what, outcome(call), NO_ELEMENT);
    }

    static void badArgument(String what, Call call) {
        due(what, outcome(call), BAD_ARGUMENT);
    }

    private static String told(long value) {
        if (value == NO_ELEMENT) {
            return "NoSuchElementException";
        }
        if (value == BAD_ARGUMENT) {
            return "IllegalArgumentException";
        }
        return value == OTHER_EXCEPTION ? "another exception" : Long.toString(value);
    }

    static void end(String name) {
        System.out.println(name + ": " + made + " answers, " + wrong + " of them not as due");
        if (wrong != 0 || made == 0) {
            System.exit(1);
        }
    }

    /** Feeds the text, filled up with spaces, and returns its own length. */
    static int feed(FamilyChart chart, String text) {
        StringBuilder padded = new StringBuilder(text);
        while (padded.length() % 20 != 0) {
            padded.append(' ');
        }
        for (int i = 0; i < padded.length(); i += 20) {
            chart.feed(word(padded, i), word(padded, i + 4), word(padded, i + 8), word(padded, i + 12),
                    word(padded, i + 16));
        }
        return text.length();
    }

    static int word(CharSequence text, int from) {
        return text.charAt(from) << 24 | text.charAt(from + 1) << 16 | text.charAt(from + 2) << 8
                | text.charAt(from + 3);
    }

    static int load(FamilyChart chart, String text) {
        return chart.load(feed(chart, text));
    }

    static int query(FamilyChart chart, String text) {
        return chart.query(feed(chart, text));
    }

    static FamilyChart chartOf(String text) {
        FamilyChart chart = new FamilyChart();
        if (load(chart, text) < 0) {
            due("loading " + text, chart.errorPosition(), FamilyChart.NONE);
        }
        return chart;
    }

    static String printed(FamilyChart chart, int line, int strip, int width) {
        int length = chart.format(line, strip, width);
        StringBuilder text = new StringBuilder();
        for (int i = 0; i < length; i++) {
            text.append((char) chart.formattedByte(i));
        }
        due("the byte behind the text", chart.formattedByte(length), FamilyChart.NONE);
        return text.toString();
    }
}
