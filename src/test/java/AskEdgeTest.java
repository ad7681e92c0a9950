/** The boundary cases of promises 7 to 15, what is asked, a method for each sentence. */
public final class AskEdgeTest {
    private static final int BAD = -1000;
    private static final int FULL = -2000;
    private static final int OBJECT = -3000;
    private static final int[] REGISTER_ENDS = {0, 5};
    private static final int[] FIELD_ENDS = {0, 2};
    private static final int[] COLLECTOR_ENDS = {0, 6};
    private static final int[] NUMBER_ENDS = {-999, 0, 999};
    private static final Checks CHECKS = new Checks();
    private static final Unchanged UNCHANGED = new Unchanged(CHECKS);

    private AskEdgeTest() {
    }

    public static void main(String[] args) {
        valueOfNumber();
        valueOfObject();
        valueBad();
        lookAtNumber();
        lookAtObject();
        lookBadOutOfRange();
        lookBadWithoutObject();
        sameObject();
        sameOutOfRange();
        sameOfNone();
        countFromNoneToAll();
        countBad();
        reachFromNoneToAll();
        reachBad();
        sumFromLeastToGreatest();
        sumOfWhatCanBeComeTo();
        sumBad();
        collectKeepsAsMany();
        collectChangesNoAnswer();
        collectBad();
        agreeAlways();
        agreeOfNone();
        soundAlways();
        CHECKS.end();
    }

    private static void due(CollectorSuite x, Call call, int want) {
        CHECKS.due(call.text(), call.on(x), want);
    }

    // ---- promise 7 ----------------------------------------------------------------------------

    private static void valueOfNumber() {
        CHECKS.sentence("Promise 7: The number that register r holds");
        CollectorSuite x = new CollectorSuite();
        for (int r : REGISTER_ENDS) {
            for (int v : NUMBER_ENDS) {
                x.number(r, v);
                for (int c = 0; c < 7; c++) {
                    due(x, Call.value(c, r), v);
                }
            }
        }
    }

    private static void valueOfObject() {
        CHECKS.sentence("Promise 7: OBJECT when it refers to one");
        CollectorSuite x = Scene.sixWays().play();
        for (int c = 0; c < 7; c++) {
            for (int r = 0; r < 6; r++) {
                due(x, Call.value(c, r), OBJECT);
            }
        }
    }

    private static void valueBad() {
        CHECKS.sentence("Promise 7: BAD when there is no such register or collector");
        for (int none : Outside.REGISTER) {
            for (int c : COLLECTOR_ENDS) {
                UNCHANGED.everywhere(Call.value(c, none), BAD);
            }
        }
        for (int none : Outside.COLLECTOR) {
            for (int r : REGISTER_ENDS) {
                UNCHANGED.everywhere(Call.value(none, r), BAD);
            }
            UNCHANGED.everywhere(Call.value(none, none), BAD);
        }
    }

    // ---- promise 8 ----------------------------------------------------------------------------

    private static void lookAtNumber() {
        CHECKS.sentence("Promise 8: The number that field f of the object holds that register r refers to");
        for (int r : REGISTER_ENDS) {
            CollectorSuite x = new CollectorSuite();
            x.make(r);
            for (int f : FIELD_ENDS) {
                for (int v : NUMBER_ENDS) {
                    x.number(3, v);
                    x.put(r, f, 3);
                    for (int c = 0; c < 7; c++) {
                        due(x, Call.look(c, r, f), v);
                    }
                }
            }
        }
    }

    private static void lookAtObject() {
        CHECKS.sentence("Promise 8: or OBJECT when that refers to one");
        for (int r : REGISTER_ENDS) {
            CollectorSuite x = new CollectorSuite();
            x.make(r);
            x.make(3);
            x.put(r, 0, 3);
            x.put(r, 2, r);
            x.number(3, 0);
            for (int c = 0; c < 7; c++) {
                due(x, Call.look(c, r, 0), OBJECT);
                due(x, Call.look(c, r, 1), 0);
                due(x, Call.look(c, r, 2), OBJECT);
            }
        }
    }

    private static void lookBadOutOfRange() {
        CHECKS.sentence("Promise 8: BAD when one is out of range");
        for (int none : Outside.REGISTER) {
            UNCHANGED.everywhere(Call.look(0, none, 0), BAD);
            UNCHANGED.everywhere(Call.look(6, none, 2), BAD);
        }
        for (int none : Outside.FIELD) {
            UNCHANGED.everywhere(Call.look(0, 0, none), BAD);
            UNCHANGED.everywhere(Call.look(6, 0, none), BAD);
        }
        for (int none : Outside.COLLECTOR) {
            UNCHANGED.everywhere(Call.look(none, 0, 0), BAD);
            UNCHANGED.everywhere(Call.look(none, 0, 2), BAD);
            UNCHANGED.everywhere(Call.look(none, none, none), BAD);
        }
    }

    private static void lookBadWithoutObject() {
        CHECKS.sentence("Promise 8: BAD when r refers to none");
        for (int r = 0; r < 6; r++) {
            for (int f : FIELD_ENDS) {
                for (int c : COLLECTOR_ENDS) {
                    UNCHANGED.whereNoObject(r, Call.look(c, r, f), BAD);
                }
            }
        }
    }

    // ---- promise 9 ----------------------------------------------------------------------------

    private static void sameObject() {
        CHECKS.sentence("Promise 9: Whether registers r and s refer to the same object");
        CollectorSuite x = new CollectorSuite();
        x.make(0);
        x.make(5);
        for (int c = 0; c < 7; c++) {
            due(x, Call.same(c, 0, 0), Call.TRUE);
            due(x, Call.same(c, 5, 5), Call.TRUE);
            // Alike in all that they hold, and yet two.
            due(x, Call.same(c, 0, 5), Call.FALSE);
            due(x, Call.same(c, 5, 0), Call.FALSE);
        }
        x.copy(5, 0);
        for (int c = 0; c < 7; c++) {
            due(x, Call.same(c, 0, 5), Call.TRUE);
            due(x, Call.collect(c), 1);
            due(x, Call.same(c, 5, 0), Call.TRUE);
        }
    }

    private static void sameOutOfRange() {
        CHECKS.sentence("Promise 9: false when one is out of range");
        for (int none : Outside.REGISTER) {
            for (int c : COLLECTOR_ENDS) {
                UNCHANGED.everywhere(Call.same(c, none, 0), Call.FALSE);
                UNCHANGED.everywhere(Call.same(c, 0, none), Call.FALSE);
                UNCHANGED.everywhere(Call.same(c, none, none), Call.FALSE);
            }
        }
        for (int none : Outside.COLLECTOR) {
            for (int r : REGISTER_ENDS) {
                UNCHANGED.everywhere(Call.same(none, r, r), Call.FALSE);
            }
            UNCHANGED.everywhere(Call.same(none, none, none), Call.FALSE);
        }
    }

    private static void sameOfNone() {
        CHECKS.sentence("Promise 9: false when one refers to none");
        for (int r = 0; r < 6; r++) {
            for (int c : COLLECTOR_ENDS) {
                UNCHANGED.whereNoObject(r, Call.same(c, r, r), Call.FALSE);
                UNCHANGED.whereNoObject(r, Call.same(c, r, 0), Call.FALSE);
                UNCHANGED.whereNoObject(r, Call.same(c, 0, r), Call.FALSE);
                UNCHANGED.whereNoObject(r, Call.same(c, r, 5 - r), Call.FALSE);
            }
        }
    }

    // ---- promise 10 ---------------------------------------------------------------------------

    private static void countFromNoneToAll() {
        CHECKS.sentence("Promise 10: How many objects can be come to from registers");
        for (Scene scene : Scene.all()) {
            CollectorSuite x = scene.play();
            for (int c = 0; c < 7; c++) {
                due(x, Call.count(c), scene.objects);
            }
            for (int r = 0; r < 6; r++) {
                x.number(r, 0);
            }
            // Lost ones do not count, though nothing has been collected.
            for (int c = 0; c < 7; c++) {
                due(x, Call.count(c), 0);
            }
        }
        CollectorSuite x = new CollectorSuite();
        for (int r = 0; r < 6; r++) {
            x.make(r);
            for (int c = 0; c < 7; c++) {
                due(x, Call.count(c), r + 1);
            }
        }
    }

    private static void countBad() {
        CHECKS.sentence("Promise 10: BAD when there is no such collector");
        for (int none : Outside.COLLECTOR) {
            UNCHANGED.everywhere(Call.count(none), BAD);
        }
    }

    // ---- promise 11 ---------------------------------------------------------------------------

    private static void reachFromNoneToAll() {
        CHECKS.sentence("Promise 11: How many objects can be come to from register r");
        CollectorSuite chain = Scene.chain(24).play();
        chain.copy(5, 0);
        CollectorSuite six = Scene.sixWays().play();
        int[] rows = {7, 4, 4, 4, 4, 1};
        for (int c = 0; c < 7; c++) {
            due(chain, Call.reach(c, 0), 24);
            due(chain, Call.reach(c, 1), 0);
            due(chain, Call.reach(c, 5), 24);
            for (int r = 0; r < 6; r++) {
                due(six, Call.reach(c, r), rows[r]);
            }
        }
        CollectorSuite numbers = Scene.numbers().play();
        for (int r = 0; r < 6; r++) {
            due(numbers, Call.reach(r, r), 0);
        }
    }

    private static void reachBad() {
        CHECKS.sentence("Promise 11: BAD when one is out of range");
        for (int none : Outside.REGISTER) {
            for (int c : COLLECTOR_ENDS) {
                UNCHANGED.everywhere(Call.reach(c, none), BAD);
            }
        }
        for (int none : Outside.COLLECTOR) {
            for (int r : REGISTER_ENDS) {
                UNCHANGED.everywhere(Call.reach(none, r), BAD);
            }
            UNCHANGED.everywhere(Call.reach(none, none), BAD);
        }
    }

    // ---- promise 12 ---------------------------------------------------------------------------

    private static void sumFromLeastToGreatest() {
        CHECKS.sentence("Promise 12: The sum of all numbers that fields hold");
        for (int c = 0; c < 7; c++) {
            due(new CollectorSuite(), Call.sum(c), 0);
        }
        // Twenty-four have seventy-two fields, and five registers leave nineteen of them to refer.
        for (int v : NUMBER_ENDS) {
            CollectorSuite x = fiveRowsOf(v);
            for (int c = 0; c < 7; c++) {
                due(x, Call.count(c), 24);
                due(x, Call.sum(c), 53 * v);
            }
        }
        // A sum may happen to be the number that is a code.
        for (int code : new int[] {BAD, FULL, OBJECT}) {
            CollectorSuite x = twoWithSum(code);
            for (int c = 0; c < 7; c++) {
                due(x, Call.sum(c), code);
            }
        }
    }

    /** Twenty-four in five rows; every field that refers to none holds v. */
    private static CollectorSuite fiveRowsOf(int v) {
        CollectorSuite x = new CollectorSuite();
        x.number(5, v);
        for (int n = 0; n < 24; n++) {
            int r = n % 5;
            x.copy(5, r);
            x.make(r);
            x.put(r, 0, 5);
            x.number(5, v);
            x.put(r, 1, 5);
            x.put(r, 2, 5);
            if (n < 5) {
                x.put(r, 0, 5);
            }
        }
        return x;
    }

    private static CollectorSuite twoWithSum(int sum) {
        CollectorSuite x = new CollectorSuite();
        x.make(0);
        x.make(1);
        int left = sum;
        for (int at = 0; at < 6; at++) {
            int part = Math.max(left, -999);
            x.number(5, part);
            x.put(at / 3, at % 3, 5);
            left -= part;
        }
        return x;
    }

    private static void sumOfWhatCanBeComeTo() {
        CHECKS.sentence("Promise 12: of objects that can be come to");
        CollectorSuite x = Scene.numbers().play();
        for (int c = 0; c < 7; c++) {
            due(x, Call.sum(c), 0);
        }
        // The same number in two fields counts twice, an object come to in two ways once.
        x = new CollectorSuite();
        x.make(0);
        x.number(5, 7);
        x.put(0, 0, 5);
        x.put(0, 1, 5);
        x.put(0, 2, 0);
        x.copy(1, 0);
        for (int c = 0; c < 7; c++) {
            due(x, Call.sum(c), 14);
        }
        x.number(0, 0);
        for (int c = 0; c < 7; c++) {
            due(x, Call.sum(c), 14);
        }
        x.number(1, 0);
        for (int c = 0; c < 7; c++) {
            due(x, Call.sum(c), 0);
        }
        // A row of twenty-four with a number at either end; then without its newest.
        x = Scene.chain(24).play();
        for (int c = 0; c < 7; c++) {
            due(x, Call.sum(c), 100 - 200);
        }
        x.get(0, 0, 0);
        for (int c = 0; c < 7; c++) {
            due(x, Call.sum(c), 100);
        }
    }

    private static void sumBad() {
        CHECKS.sentence("Promise 12: BAD when there is no such collector");
        for (int none : Outside.COLLECTOR) {
            UNCHANGED.everywhere(Call.sum(none), BAD);
        }
    }

    // ---- promise 13 ---------------------------------------------------------------------------

    private static void collectKeepsAsMany() {
        CHECKS.sentence("Promise 13: answers how many objects it keeps: as many as can be come to");
        for (int c = 0; c < 7; c++) {
            CollectorSuite x = new CollectorSuite();
            due(x, Call.collect(c), 0);
            x.make(0);
            due(x, Call.collect(c), 1);
            x.put(0, 2, 0);
            due(x, Call.collect(c), 1);
            x.number(0, 0);
            due(x, Call.collect(c), 0);
            collectOfLostRow(c);
            collectOfLostRing(c);
        }
        // Every collector in turn, after so many were lost that each had to make room by itself.
        for (int lost = 0; lost < 100; lost++) {
            CollectorSuite x = new CollectorSuite();
            for (int n = 0; n < lost; n++) {
                x.make(5);
                x.put(5, n % 3, 5);
            }
            x.make(0);
            x.number(5, 0);
            for (int c = 0; c < 7; c++) {
                due(x, Call.collect(c), 1);
            }
        }
    }

    /** A row of twenty-four, from its newest end on, one less each time. */
    private static void collectOfLostRow(int c) {
        CollectorSuite x = Scene.chain(24).play();
        for (int left = 24; left > 0; left--) {
            due(x, Call.collect(c), left);
            due(x, Call.collect(c), left);
            due(x, Call.get(0, 0, 0), Call.TRUE);
        }
        due(x, Call.collect(c), 0);
    }

    private static void collectOfLostRing(int c) {
        CollectorSuite x = Scene.chain(24).play();
        for (int n = 0; n < 23; n++) {
            x.get(1, n == 0 ? 0 : 1, 0);
        }
        x.put(1, 0, 0);
        x.number(0, 0);
        due(x, Call.collect(c), 24);
        x.number(1, 0);
        due(x, Call.collect(c), 0);
        due(x, Call.sound(), Call.TRUE);
    }

    private static void collectChangesNoAnswer() {
        CHECKS.sentence("Promise 13: none is lost by collecting that can be come to");
        for (int objects : new int[] {0, 3, 23, 24}) {
            for (int c = 0; c < 7; c++) {
                UNCHANGED.whereObjects(objects, Call.collect(c), objects);
            }
        }
    }

    private static void collectBad() {
        CHECKS.sentence("Promise 13: BAD when there is no such collector");
        for (int none : Outside.COLLECTOR) {
            UNCHANGED.everywhere(Call.collect(none), BAD);
        }
    }

    // ---- promise 14 ---------------------------------------------------------------------------

    private static void agreeAlways() {
        CHECKS.sentence("Promise 14: Whether two collectors keep the same");
        for (Scene scene : Scene.all()) {
            CollectorSuite x = scene.play();
            for (int c = 0; c < 7; c++) {
                for (int other = 0; other < 7; other++) {
                    due(x, Call.agree(c, other), Call.TRUE);
                }
            }
            // Also when one has collected and the other has not.
            for (int c = 0; c < 7; c++) {
                x.collect(c);
                for (int other = 0; other < 7; other++) {
                    due(x, Call.agree(c, other), Call.TRUE);
                    due(x, Call.agree(other, c), Call.TRUE);
                }
            }
        }
    }

    private static void agreeOfNone() {
        CHECKS.sentence("Promise 14: false when one is none");
        for (int none : Outside.COLLECTOR) {
            for (int c : COLLECTOR_ENDS) {
                UNCHANGED.everywhere(Call.agree(none, c), Call.FALSE);
                UNCHANGED.everywhere(Call.agree(c, none), Call.FALSE);
            }
            UNCHANGED.everywhere(Call.agree(none, none), Call.FALSE);
        }
    }

    // ---- promise 15 ---------------------------------------------------------------------------

    private static void soundAlways() {
        CHECKS.sentence("Promise 15: Whether everything inside is as it must be: it always is");
        UNCHANGED.everywhere(Call.sound(), Call.TRUE);
        for (Scene scene : Scene.all()) {
            CollectorSuite x = new CollectorSuite();
            due(x, Call.sound(), Call.TRUE);
            for (Call call : scene.calls) {
                call.on(x);
                due(x, Call.sound(), Call.TRUE);
            }
            for (int c = 0; c < 7; c++) {
                x.collect(c);
                due(x, Call.sound(), Call.TRUE);
            }
            for (int r = 0; r < 6; r++) {
                x.make(r);
                due(x, Call.sound(), Call.TRUE);
                x.number(r, 0);
                due(x, Call.sound(), Call.TRUE);
            }
        }
    }
}
