import java.util.ArrayList;
import java.util.List;

/** Promise 16, and the 512 calls that an object is used for, a method for each sentence. */
public final class LimitEdgeTest {
    private static final int BAD = -1000;
    private static final int FULL = -2000;
    private static final int OBJECT = -3000;
    private static final int CALLS = 512;
    private static final Checks CHECKS = new Checks();
    private static final Unchanged UNCHANGED = new Unchanged(CHECKS);

    private LimitEdgeTest() {
    }

    public static void main(String[] args) {
        badBeforeFull();
        refusedOnesBetweenTheOthers();
        refusedOnesInARow();
        askingChangesNothing();
        lastCallOfEachKind();
        allCallsOfOneKind();
        laterCallsEnd();
        CHECKS.end();
    }

    private static void due(CollectorSuite x, Call call, int want) {
        CHECKS.due(call.text(), call.on(x), want);
    }

    private static void badBeforeFull() {
        CHECKS.sentence("Promise 16: make: BAD is tested before FULL");
        for (int r : Outside.REGISTER) {
            UNCHANGED.whereObjects(24, Call.make(r), BAD);
        }
        for (Scene scene : Scene.full()) {
            CollectorSuite x = scene.play();
            for (int r : Outside.REGISTER) {
                due(x, Call.make(0), FULL);
                due(x, Call.make(r), BAD);
                due(x, Call.make(5), FULL);
            }
        }
    }

    /** One call of every kind and every reason for which it is refused, in any state. */
    private static List<Call> refusedOnes() {
        return List.of(Call.make(-1), Call.make(6), Call.number(-1, 5), Call.number(6, 5),
                Call.number(0, -1000), Call.number(5, 1000), Call.copy(-1, 0), Call.copy(0, -1),
                Call.copy(6, 5), Call.copy(5, 6), Call.get(-1, 0, 0), Call.get(0, -1, 0),
                Call.get(1, 0, -1), Call.get(6, 0, 2), Call.get(0, 6, 2), Call.get(1, 0, 3),
                Call.put(-1, 0, 0), Call.put(0, -1, 1), Call.put(0, 0, -1), Call.put(6, 2, 0),
                Call.put(0, 3, 1), Call.put(0, 2, 6), Call.value(-1, 0), Call.value(7, 0),
                Call.value(0, -1), Call.value(6, 6), Call.look(-1, 0, 0), Call.look(7, 0, 0),
                Call.look(0, -1, 0), Call.look(0, 6, 0), Call.look(0, 0, -1), Call.look(0, 0, 3),
                Call.same(-1, 0, 0), Call.same(7, 0, 0), Call.same(0, -1, 0), Call.same(0, 0, 6),
                Call.count(-1), Call.count(7), Call.reach(-1, 0), Call.reach(7, 0),
                Call.reach(0, -1), Call.reach(0, 6), Call.sum(-1), Call.sum(7), Call.collect(-1),
                Call.collect(7), Call.agree(-1, 0), Call.agree(0, 7));
    }

    private static boolean isRefusal(int answer) {
        return answer == Call.FALSE || answer == BAD;
    }

    private static void refusedOnesBetweenTheOthers() {
        CHECKS.sentence("Promise 16: a call that is refused changes nothing: between other calls");
        List<Call> refused = refusedOnes();
        for (Scene scene : Scene.all()) {
            for (int at = 0; at < refused.size(); at++) {
                CollectorSuite with = new CollectorSuite();
                CollectorSuite without = new CollectorSuite();
                for (Call call : scene.calls) {
                    Call none = refused.get(at);
                    CHECKS.due(none.text() + " is refused", isRefusal(none.on(with)), true);
                    due(with, call, call.on(without));
                }
                for (Call call : Later.picture(at % 7)) {
                    CHECKS.due("after " + refused.get(at).text() + ": " + call.text(), call.on(with),
                            call.on(without));
                }
            }
        }
    }

    private static void refusedOnesInARow() {
        CHECKS.sentence("Promise 16: a call that is refused changes nothing: all of them in a row");
        List<Call> refused = new ArrayList<>(refusedOnes());
        refused.addAll(List.of(Call.make(0), Call.make(5)));
        for (Scene scene : Scene.full()) {
            for (List<Call> later : Later.all()) {
                CollectorSuite with = scene.play();
                CollectorSuite without = scene.play();
                for (Call none : refused) {
                    int answer = none.on(with);
                    CHECKS.due(none.text() + " is refused", isRefusal(answer) || answer == FULL, true);
                }
                for (Call call : later) {
                    CHECKS.due("in " + scene.name + " after all: " + call.text(), call.on(with),
                            call.on(without));
                }
            }
        }
    }

    private static void askingChangesNothing() {
        CHECKS.sentence("Nothing is promised beyond the state changes described: asking makes none");
        for (int c = 0; c < 7; c++) {
            for (int r : new int[] {0, 5}) {
                UNCHANGED.asked(Call.value(c, r));
                UNCHANGED.asked(Call.look(c, r, 0));
                UNCHANGED.asked(Call.look(c, r, 2));
                UNCHANGED.asked(Call.same(c, r, r));
                // False for two objects is an answer, and changes as little as a refusal.
                UNCHANGED.asked(Call.same(c, r, 1));
                UNCHANGED.asked(Call.reach(c, r));
            }
            UNCHANGED.asked(Call.count(c));
            UNCHANGED.asked(Call.sum(c));
            UNCHANGED.asked(Call.agree(c, 6 - c));
        }
    }

    // ---- the 512 calls ------------------------------------------------------------------------

    /** An object that has been used for all calls but the last: a row of 24, and litter. */
    private static CollectorSuite beforeTheLast(int kind) {
        CollectorSuite x = new CollectorSuite();
        Scene row = Scene.chain(23);
        for (int call = row.calls.size() + 2; call < CALLS; call++) {
            litter(x, kind, call);
        }
        for (Call call : row.calls) {
            call.on(x);
        }
        due(x, Call.make(5), 24);
        return x;
    }

    private static void litter(CollectorSuite x, int kind, int call) {
        if (kind == 0) {
            x.make(5);
        } else if (kind == 1 && call % 2 == 0) {
            x.make(5);
        } else if (kind == 1) {
            x.put(5, call % 3, 5);
        } else if (kind == 2) {
            x.collect(call % 7);
        } else {
            x.make(6);
        }
    }

    private static void lastCallOfEachKind() {
        CHECKS.sentence("An object is used for at most 512 calls after it has been made: the last");
        for (int kind = 0; kind < 4; kind++) {
            due(beforeTheLast(kind), Call.make(0), FULL);
            due(beforeTheLast(kind), Call.make(6), BAD);
            due(beforeTheLast(kind), Call.number(0, 999), Call.TRUE);
            due(beforeTheLast(kind), Call.number(0, 1000), Call.FALSE);
            due(beforeTheLast(kind), Call.copy(1, 0), Call.TRUE);
            due(beforeTheLast(kind), Call.copy(1, 6), Call.FALSE);
            due(beforeTheLast(kind), Call.get(1, 0, 0), Call.TRUE);
            due(beforeTheLast(kind), Call.get(1, 2, 0), Call.FALSE);
            due(beforeTheLast(kind), Call.put(5, 2, 0), Call.TRUE);
            due(beforeTheLast(kind), Call.put(1, 2, 0), Call.FALSE);
            due(beforeTheLast(kind), Call.sound(), Call.TRUE);
            for (int c = 0; c < 7; c++) {
                due(beforeTheLast(kind), Call.value(c, 0), OBJECT);
                due(beforeTheLast(kind), Call.look(c, 0, 2), -200);
                due(beforeTheLast(kind), Call.same(c, 5, 5), Call.TRUE);
                due(beforeTheLast(kind), Call.same(c, 0, 5), Call.FALSE);
                due(beforeTheLast(kind), Call.count(c), 24);
                due(beforeTheLast(kind), Call.reach(c, 0), 23);
                due(beforeTheLast(kind), Call.sum(c), 100 - 200);
                due(beforeTheLast(kind), Call.collect(c), 24);
                due(beforeTheLast(kind), Call.agree(c, 6 - c), Call.TRUE);
            }
        }
    }

    private static void allCallsOfOneKind() {
        CHECKS.sentence("An object is used for at most 512 calls after it has been made: all of them");
        CollectorSuite made = new CollectorSuite();
        CollectorSuite numbered = new CollectorSuite();
        CollectorSuite asked = Scene.mixed().play();
        int before = Scene.mixed().calls.size();
        for (int call = 1; call <= CALLS; call++) {
            due(made, Call.make(call % 6), Math.min(call, 6));
            due(numbered, Call.number(call % 6, 999 - call), Call.TRUE);
            if (call > before) {
                due(asked, Call.collect(call % 7), 3);
            }
        }
        // Seven times a row of twenty-four, let go at once: 511 calls, and one more.
        for (int c = 0; c < 7; c++) {
            CollectorSuite x = new CollectorSuite();
            for (int round = 0; round < 7; round++) {
                for (int n = 1; n <= 24; n++) {
                    due(x, Call.copy(1, 0), Call.TRUE);
                    due(x, Call.make(0), n);
                    due(x, n == 24 ? Call.number(1, 0) : Call.put(0, n % 3, 1), Call.TRUE);
                }
                due(x, Call.number(0, 0), Call.TRUE);
            }
            due(x, Call.collect(c), 0);
        }
    }

    private static void laterCallsEnd() {
        CHECKS.sentence("what later calls answer is free (but LANGUAGE 7: no call may ever throw)");
        int[] some = {-1, 0, 1, 2, 3, 5, 6, 7, Integer.MIN_VALUE, Integer.MAX_VALUE};
        CollectorSuite x = Scene.litter(Scene.chain(24)).play();
        long state = 20261115;
        for (int call = 0; call < 200000; call++) {
            state = state * 6364136223846793005L + 1442695040888963407L;
            int a = some[(int) ((state >>> 33) % 10)];
            int b = some[(int) ((state >>> 37) % 10)];
            int d = some[(int) ((state >>> 41) % 10)];
            List<Call> calls = List.of(Call.make(a), Call.number(a, b), Call.copy(a, b),
                    Call.get(a, b, d), Call.put(a, b, d), Call.value(a, b), Call.look(a, b, d),
                    Call.same(a, b, d), Call.count(a), Call.reach(a, b), Call.sum(a),
                    Call.collect(a), Call.agree(a, b), Call.sound());
            calls.get((int) ((state >>> 45) % 14)).on(x);
        }
        CHECKS.due("all calls ended", true, true);
    }
}
