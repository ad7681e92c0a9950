import java.util.ArrayList;
import java.util.List;

/** A run of calls that leads a new object into a state, and what its registers hold then. */
final class Scene {
    final String name;
    /** One letter for each register: o when it refers to an object, n when it holds a number. */
    final String held;
    final int objects;
    final List<Call> calls = new ArrayList<>();

    private Scene(String name, String held, int objects) {
        this.name = name;
        this.held = held;
        this.objects = objects;
    }

    static List<Scene> all() {
        return List.of(fresh(), numbers(), mixed(), chain(23), sixWays(), chain(24),
                litter(mixed()), litter(chain(24)));
    }

    static List<Scene> full() {
        return List.of(sixWays(), chain(24), litter(chain(24)));
    }

    CollectorSuite play() {
        CollectorSuite x = new CollectorSuite();
        for (Call call : calls) {
            call.on(x);
        }
        return x;
    }

    boolean refers(int r) {
        return held.charAt(r) == 'o';
    }

    static Scene fresh() {
        return new Scene("fresh", "nnnnnn", 0);
    }

    /** The least and the greatest number and those about 0, but no object. */
    static Scene numbers() {
        int[] values = {-999, -1, 0, 1, 999, 999};
        Scene scene = new Scene("numbers", "nnnnnn", 0);
        for (int r = 0; r < 6; r++) {
            scene.add(Call.number(r, values[r]));
        }
        return scene;
    }

    /** A ring of two, one of them in two registers, and behind them one that refers to itself. */
    static Scene mixed() {
        Scene scene = new Scene("mixed", "oononn", 3);
        scene.add(Call.make(0), Call.make(1), Call.make(5));
        scene.add(Call.number(2, 999), Call.number(4, -999), Call.number(3, 17));
        scene.add(Call.put(5, 0, 2), Call.put(5, 1, 5), Call.put(5, 2, 4));
        scene.add(Call.put(0, 0, 1), Call.put(0, 2, 4));
        scene.add(Call.put(1, 0, 5), Call.put(1, 1, 3), Call.put(1, 2, 0));
        scene.add(Call.copy(3, 0), Call.number(5, 0));
        return scene;
    }

    /** A row: register 0 refers to the newest, field 0 of each to the one made before it. */
    static Scene chain(int length) {
        Scene scene = new Scene("chain of " + length, "onnnnn", length);
        scene.addRow(0, 0, length);
        scene.add(Call.number(5, 0));
        return scene;
    }

    /** Twenty-four, each of them come to from one register alone; all registers refer to one. */
    static Scene sixWays() {
        Scene scene = new Scene("six ways", "oooooo", 24);
        scene.addRow(0, 0, 7);
        for (int r = 1; r < 5; r++) {
            scene.addRow(r, r % 3, 4);
        }
        scene.add(Call.make(5));
        return scene;
    }

    /** The scene after much has been lost that no collector has been told to collect. */
    static Scene litter(Scene scene) {
        Scene littered = new Scene("litter, then " + scene.name, scene.held, scene.objects);
        for (int n = 0; n < 40; n++) {
            littered.add(Call.make(5), Call.put(5, n % 3, 5));
        }
        littered.add(Call.number(5, 0));
        littered.calls.addAll(scene.calls);
        return littered;
    }

    private void addRow(int r, int f, int length) {
        add(Call.make(r), Call.number(5, 100 + r), Call.put(r, (f + 1) % 3, 5));
        for (int n = 1; n < length; n++) {
            add(Call.copy(5, r), Call.make(r), Call.put(r, f, 5));
        }
        add(Call.number(5, -200 - r), Call.put(r, (f + 2) % 3, 5));
    }

    private void add(Call... more) {
        calls.addAll(List.of(more));
    }
}
