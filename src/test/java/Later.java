import java.util.ArrayList;
import java.util.List;

/** Runs of calls that show what a state is like: some only ask, some change it and ask on. */
final class Later {
    private Later() {
    }

    static List<List<Call>> all() {
        List<List<Call>> runs = new ArrayList<>();
        for (int c = 0; c < 7; c++) {
            runs.add(collected(c));
            runs.add(growth(c));
        }
        for (int r = 0; r < 6; r++) {
            for (int way = 0; way < 4; way++) {
                runs.add(walk(r, way));
            }
        }
        return runs;
    }

    /** All that one collector answers without being changed. */
    static List<Call> picture(int c) {
        List<Call> calls = new ArrayList<>(List.of(Call.count(c), Call.sum(c), Call.sound()));
        for (int r = 0; r < 6; r++) {
            calls.add(Call.value(c, r));
            calls.add(Call.reach(c, r));
            for (int f = 0; f < 3; f++) {
                calls.add(Call.look(c, r, f));
            }
            for (int s = 0; s < 6; s++) {
                calls.add(Call.same(c, r, s));
            }
        }
        for (int other = 0; other < 7; other++) {
            calls.add(Call.agree(c, other));
        }
        return calls;
    }

    private static List<Call> collected(int c) {
        List<Call> calls = new ArrayList<>();
        calls.add(Call.collect(c));
        calls.addAll(picture(c));
        return calls;
    }

    /** From a register on, object by object, as deep as twenty-four can lie. */
    private static List<Call> walk(int r, int way) {
        List<Call> calls = new ArrayList<>();
        for (int step = 0; step < 24; step++) {
            int c = (step + r + way) % 7;
            calls.add(Call.reach(c, r));
            for (int f = 0; f < 3; f++) {
                calls.add(Call.look(c, r, f));
            }
            calls.add(Call.same(c, r, (r + 1) % 6));
            calls.add(Call.get(r, r, way == 3 ? step % 3 : way));
        }
        calls.add(Call.count(r));
        calls.add(Call.sound());
        return calls;
    }

    /** New objects until there is no room, then all let go. */
    private static List<Call> growth(int c) {
        List<Call> calls = new ArrayList<>();
        for (int n = 0; n < 25; n++) {
            calls.add(Call.copy(1, 0));
            calls.add(Call.make(0));
            calls.add(Call.put(0, n % 3, 1));
        }
        calls.addAll(List.of(Call.count(c), Call.sum(c), Call.collect(c), Call.sound()));
        for (int r = 0; r < 6; r++) {
            calls.add(Call.number(r, r));
            calls.add(Call.collect((c + r) % 7));
            calls.add(Call.make(r));
        }
        calls.addAll(List.of(Call.collect(c), Call.agree(c, (c + 1) % 7), Call.sound()));
        return calls;
    }
}
