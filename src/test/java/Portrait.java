import java.util.LinkedHashMap;
import java.util.Map;

/** All that a chart answers, told from objects that are made anew for each part of it. */
final class Portrait {
    private static final int PERSONS = 16;
    private static final int UNIONS = 12;
    private static final String FAMILY = "the persons and unions";
    private static final String ROWS = "the rows";
    private static final String LINES = "the lines";
    private static final String BUFFER = "the buffer";
    private static final String ERROR_POSITION = "the error position";

    private final Scene scene;
    private final Map<String, String> parts = new LinkedHashMap<>();

    Portrait(Scene scene) {
        this.scene = scene;
        parts.put(FAMILY, family(scene.chart()));
        parts.put(ROWS, rows(scene.chart()));
        parts.put("the text of format", text(scene.chart()));
        parts.put(ERROR_POSITION, Integer.toString(scene.chart().errorPosition()));
        parts.put(BUFFER, buffer());
        parts.put(LINES, lines());
        parts.put("what can be undone", undone());
        parts.put("the snapshot", snapshot(scene.chart()));
    }

    /** The first part that is another one there; nothing if there is none. */
    String firstChange(Portrait other) {
        for (String part : parts.keySet()) {
            if (!parts.get(part).equals(other.parts.get(part))) {
                return part;
            }
        }
        return "";
    }

    /** The same, but for the buffer and the error position, which a wrong text may change. */
    String firstChangeOfChart(Portrait other) {
        for (String part : parts.keySet()) {
            boolean read = part.equals(BUFFER) || part.equals(ERROR_POSITION);
            if (!read && !parts.get(part).equals(other.parts.get(part))) {
                return part;
            }
        }
        return "";
    }

    /** The same, for what persons and unions stand and how they are drawn: charts of another past may be compared. */
    String firstChangeOfDrawing(Portrait other) {
        for (String part : new String[] {FAMILY, ROWS, LINES}) {
            if (!parts.get(part).equals(other.parts.get(part))) {
                return part;
            }
        }
        return "";
    }

    private static String family(FamilyChart chart) {
        StringBuilder told = new StringBuilder();
        for (int i = -1; i < 8; i++) {
            told.append(chart.count(i)).append(' ');
        }
        for (int i = 0; i < chart.count(0) && i < PERSONS; i++) {
            for (int what = 0; what < 5; what++) {
                told.append(chart.person(i, what)).append(' ');
            }
            told.append(chart.ancestors(i)).append(' ').append(chart.descendants(i)).append(' ');
        }
        for (int i = 0; i < chart.count(1) && i < UNIONS; i++) {
            for (int what = 0; what < 7; what++) {
                told.append(chart.union(i, what)).append(' ');
            }
            told.append(chart.children(i)).append(' ');
        }
        told.append(chart.repeated()).append(' ').append(chart.inbreeding());
        return told.toString();
    }

    private static String rows(FamilyChart chart) {
        StringBuilder told = new StringBuilder();
        told.append(chart.crossings()).append(' ').append(chart.width()).append(' ').append(chart.cutBoxes(10));
        for (int row = 0; row < chart.count(2) && row < PERSONS; row++) {
            told.append(" row ").append(chart.crossingsOf(row, false)).append(' ').append(chart.crossingsOf(row, true));
            for (int place = 0; place < chart.boxes(row) && place < PERSONS + UNIONS; place++) {
                for (int what = 0; what < 4; what++) {
                    told.append(' ').append(chart.box(row, place, what));
                }
            }
        }
        for (int i = 0; i < chart.count(0) && i < PERSONS; i++) {
            told.append(' ').append(chart.place(i));
        }
        return told.toString();
    }

    private static String text(FamilyChart chart) {
        StringBuilder told = new StringBuilder();
        for (int i = -1; i < 201; i++) {
            told.append(chart.formattedByte(i)).append(' ');
        }
        return told.toString();
    }

    // How many bytes there are, and what they say: as a text, and as a query of at most 200 bytes.
    private String buffer() {
        int fed = scene.chart().feed(0x20202020, 0x20202020, 0x20202020, 0x20202020, 0x20202020);
        int filled = fed == FamilyChart.NONE ? 800 : fed - 20;
        FamilyChart loaded = scene.chart();
        StringBuilder told = new StringBuilder();
        told.append(fed).append(' ').append(Checks.outcome(() -> loaded.load(filled + 1)));
        told.append(' ').append(Checks.outcome(() -> loaded.load(filled))).append(' ').append(loaded.errorPosition());
        told.append(' ').append(family(loaded)).append(' ');
        FamilyChart asked = scene.chart();
        told.append(Checks.outcome(() -> asked.query(Math.min(filled, 200)))).append(' ').append(asked.errorPosition());
        return told.toString();
    }

    private String lines() {
        StringBuilder told = new StringBuilder();
        int rows = scene.chart().count(2);
        for (int line = 0; line < 3 * rows && line < 3 * PERSONS; line++) {
            FamilyChart chart = scene.chart();
            int length = chart.format(line, 0, 200);
            for (int i = 0; i < length && i < 200; i++) {
                told.append((char) chart.formattedByte(i));
            }
            told.append(' ').append(length).append('\n');
        }
        return told.toString();
    }

    private String undone() {
        StringBuilder told = new StringBuilder();
        told.append(scene.chart().undoCount());
        int left = 0;
        for (int times = 1; times < 12 && left != FamilyChart.NONE; times++) {
            FamilyChart chart = scene.chart();
            for (int i = 0; i < times; i++) {
                left = chart.undo();
            }
            told.append("\nundo ").append(left).append(' ').append(order(chart));
        }
        return told.toString();
    }

    private static String snapshot(FamilyChart chart) {
        boolean kept = chart.restoreSnapshot();
        return kept + " " + chart.undoCount() + " " + order(chart);
    }

    /** What undoing can bring back: the unions, the parents and the order of the boxes. */
    private static String order(FamilyChart chart) {
        StringBuilder told = new StringBuilder();
        for (int i = 0; i < chart.count(0) && i < PERSONS; i++) {
            told.append(chart.person(i, 1)).append(' ').append(chart.person(i, 2)).append(' ');
        }
        for (int i = 0; i < chart.count(1) && i < UNIONS; i++) {
            told.append(chart.union(i, 0)).append(' ').append(chart.union(i, 1)).append(' ');
            told.append(chart.union(i, 2)).append(' ').append(chart.union(i, 3)).append(' ');
        }
        for (int row = 0; row < chart.count(2) && row < PERSONS; row++) {
            told.append("row ");
            for (int place = 0; place < chart.boxes(row) && place < PERSONS + UNIONS; place++) {
                told.append(chart.box(row, place, 0)).append(' ').append(chart.box(row, place, 1)).append(' ');
            }
        }
        return told.toString();
    }
}
