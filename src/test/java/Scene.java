import java.util.ArrayList;
import java.util.List;

/**
 * The calls that make a chart. Each look at it has an object of its own, since the document leaves free what an
 * object answers behind its 512th call, and since some looks change what they look at.
 */
final class Scene {
    private final List<Checks.Ask> calls = new ArrayList<>();
    private Portrait portrait;

    static Scene of(String text) {
        return new Scene().load(text);
    }

    Scene then(Checks.Ask call) {
        Scene longer = new Scene();
        longer.calls.addAll(calls);
        longer.calls.add(call);
        return longer;
    }

    Scene load(String text) {
        return then(chart -> Checks.load(chart, text));
    }

    Scene query(String text) {
        return then(chart -> Checks.query(chart, text));
    }

    Scene feed(String text) {
        return then(chart -> Checks.feed(chart, text));
    }

    Scene swap(int row, int place, int other) {
        return then(chart -> chart.swap(row, place, other));
    }

    Scene format(int line, int strip, int width) {
        return then(chart -> chart.format(line, strip, width));
    }

    Scene plain() {
        return then(chart -> {
            chart.plain();
            return 0;
        });
    }

    Scene save() {
        return then(chart -> {
            chart.saveSnapshot();
            return 0;
        });
    }

    /** A new object behind all these calls, whether they answer or throw. */
    FamilyChart chart() {
        FamilyChart chart = new FamilyChart();
        for (Checks.Ask call : calls) {
            Checks.outcome(() -> call.of(chart));
        }
        return chart;
    }

    Portrait portrait() {
        if (portrait == null) {
            portrait = new Portrait(this);
        }
        return portrait;
    }

    /** Two unions of one row, a reference box, an order that is not plain, seven operations and a snapshot. */
    static Scene rich() {
        return of(Texts.FAMILY + "person otto 7;")
                .then(chart -> chart.marry(0, 4, 1980))
                .then(chart -> chart.adopt(2, 5))
                .swap(0, 0, 1)
                .save()
                .swap(2, 0, 1)
                .then(chart -> chart.release(5))
                .swap(0, 0, 2)
                .swap(1, 0, 1)
                .format(3, 0, 10)
                .query("many year=100000");
    }

    /** The same with a text in the buffer that could be loaded. */
    static Scene richAndFed() {
        return rich().feed("person neu 5;person alt 6;union neu alt 7;");
    }

    /** 16 persons, 12 unions, ten operations to be undone of eleven, a snapshot, and a buffer without room. */
    static Scene full() {
        Scene scene = of(Texts.persons(16) + Texts.unions(12)).swap(0, 15, 3).save();
        for (int i = 0; i < 10; i++) {
            scene = scene.swap(0, i, i + 2);
        }
        return scene.format(1, 1, 20).feed(Texts.persons(16) + Texts.unions(12) + " ".repeat(480));
    }

    /** A chart without persons, as it is made. */
    static Scene empty() {
        return new Scene();
    }
}
