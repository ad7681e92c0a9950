/** The boundary cases of promises 1 to 6, what makes and changes objects, a method for each sentence. */
public final class ChangeEdgeTest {
    private static final int BAD = -1000;
    private static final int FULL = -2000;
    private static final int OBJECT = -3000;
    private static final int[] REGISTER_ENDS = {0, 5};
    private static final int[] FIELD_ENDS = {0, 2};
    private static final int[] NUMBER_ENDS = {-999, 0, 999};
    private static final Checks CHECKS = new Checks();
    private static final Unchanged UNCHANGED = new Unchanged(CHECKS);

    private ChangeEdgeTest() {
    }

    public static void main(String[] args) {
        newNoObjects();
        newRegistersHoldZero();
        makeRefersToANewObject();
        makeFieldsHoldZero();
        makeAnswersHowMany();
        makeBad();
        makeFull();
        makeFullChangesNothing();
        numberHeld();
        numberRegisterOutOfRange();
        numberOutOfRange();
        copyHeld();
        copyOutOfRange();
        getHeld();
        getOutOfRange();
        getFromNone();
        putHeld();
        putOutOfRange();
        putIntoNone();
        CHECKS.end();
    }

    private static void due(CollectorSuite x, Call call, int want) {
        CHECKS.due(call.text(), call.on(x), want);
    }

    /** Each collector answers so. */
    private static void dueValue(CollectorSuite x, int r, int want) {
        for (int c = 0; c < 7; c++) {
            due(x, Call.value(c, r), want);
        }
    }

    private static void dueLook(CollectorSuite x, int r, int f, int want) {
        for (int c = 0; c < 7; c++) {
            due(x, Call.look(c, r, f), want);
        }
    }

    private static void dueSame(CollectorSuite x, int r, int s, boolean want) {
        for (int c = 0; c < 7; c++) {
            due(x, Call.same(c, r, s), want ? Call.TRUE : Call.FALSE);
        }
    }

    private static void dueCount(CollectorSuite x, int want) {
        for (int c = 0; c < 7; c++) {
            due(x, Call.count(c), want);
        }
    }

    // ---- promise 1 ----------------------------------------------------------------------------

    private static void newNoObjects() {
        CHECKS.sentence("Promise 1: No objects");
        CollectorSuite x = new CollectorSuite();
        for (int c = 0; c < 7; c++) {
            due(x, Call.count(c), 0);
            due(x, Call.sum(c), 0);
            for (int r = 0; r < 6; r++) {
                due(x, Call.reach(c, r), 0);
                due(x, Call.look(c, r, 0), BAD);
                due(x, Call.same(c, r, r), Call.FALSE);
                due(x, Call.agree(c, r), Call.TRUE);
            }
        }
        for (int r = 0; r < 6; r++) {
            due(x, Call.get(r, r, 0), Call.FALSE);
            due(x, Call.put(r, 0, r), Call.FALSE);
        }
        due(x, Call.sound(), Call.TRUE);
        for (int c = 0; c < 7; c++) {
            due(x, Call.collect(c), 0);
        }
        dueCount(x, 0);
        due(x, Call.make(0), 1);
        dueCount(new CollectorSuite(), 0);
    }

    private static void newRegistersHoldZero() {
        CHECKS.sentence("Promise 1: all registers hold 0");
        CollectorSuite used = Scene.numbers().play();
        CollectorSuite x = new CollectorSuite();
        for (int r = 0; r < 6; r++) {
            dueValue(x, r, 0);
        }
        due(used, Call.value(0, 0), -999);
    }

    // ---- promise 2 ----------------------------------------------------------------------------

    private static void makeRefersToANewObject() {
        CHECKS.sentence("Promise 2: Lets register r refer to a new object");
        for (int r : REGISTER_ENDS) {
            for (int before : NUMBER_ENDS) {
                CollectorSuite x = new CollectorSuite();
                x.number(r, before);
                due(x, Call.make(r), 1);
                dueValue(x, r, OBJECT);
                for (int other = 1; other < 5; other++) {
                    dueValue(x, other, 0);
                }
            }
        }
        // Over one that is still come to in another way: the new one is another one.
        CollectorSuite x = new CollectorSuite();
        x.make(0);
        x.copy(1, 0);
        due(x, Call.make(0), 2);
        dueSame(x, 0, 1, false);
        x.put(0, 0, 1);
        x.copy(2, 0);
        due(x, Call.make(0), 3);
        for (int s = 1; s < 3; s++) {
            dueSame(x, 0, s, false);
        }
        // The twenty-fourth is none of the twenty-three.
        x = Scene.chain(23).play();
        due(x, Call.make(4), 24);
        for (int n = 0; n < 23; n++) {
            due(x, Call.same(n % 7, 0, 4), Call.FALSE);
            due(x, Call.get(0, 0, 0), Call.TRUE);
        }
    }

    private static void makeFieldsHoldZero() {
        CHECKS.sentence("Promise 2: whose fields hold 0");
        CollectorSuite x = new CollectorSuite();
        // More often than there is room for, so that the place of a lost one is used again.
        for (int n = 0; n < 70; n++) {
            x.make(5);
            for (int f = 0; f < 3; f++) {
                due(x, Call.look(n % 7, 5, f), 0);
            }
            x.number(4, n % 2 == 0 ? 999 : -999);
            x.put(5, 0, 4);
            x.put(5, 1, 5);
        }
        x = Scene.litter(Scene.chain(23)).play();
        x.make(4);
        for (int f = 0; f < 3; f++) {
            dueLook(x, 4, f, 0);
        }
    }

    private static void makeAnswersHowMany() {
        CHECKS.sentence("Promise 2: answers how many objects can be come to then");
        CollectorSuite x = new CollectorSuite();
        for (int n = 0; n < 60; n++) {
            due(x, Call.make(0), 1);
        }
        x = new CollectorSuite();
        for (int n = 1; n <= 24; n++) {
            due(x, Call.copy(1, 0), Call.TRUE);
            due(x, Call.make(0), n);
            due(x, Call.put(0, 0, 1), Call.TRUE);
        }
        // Over the only way to all of them, when there is room for one more.
        x = Scene.chain(23).play();
        due(x, Call.make(0), 1);
        // Over the only way to one of them.
        x = Scene.chain(22).play();
        due(x, Call.make(5), 23);
        due(x, Call.make(5), 23);
        due(x, Call.make(4), 24);
    }

    private static void makeBad() {
        CHECKS.sentence("Promise 2: BAD when there is no such register");
        for (int r : Outside.REGISTER) {
            UNCHANGED.everywhere(Call.make(r), BAD);
        }
        for (int r : REGISTER_ENDS) {
            due(new CollectorSuite(), Call.make(r), 1);
        }
    }

    private static void makeFull() {
        CHECKS.sentence("Promise 2: FULL when twenty-four can be come to before that");
        CollectorSuite x = Scene.chain(23).play();
        due(x, Call.make(3), 24);
        for (int r = 0; r < 6; r++) {
            due(x, Call.make(r), FULL);
        }
        // Register 3 is the only way to one of them: before counts, not after.
        due(x, Call.make(3), FULL);
        due(x, Call.number(3, 0), Call.TRUE);
        due(x, Call.make(3), 24);
        due(x, Call.make(3), FULL);
        // Lost ones do not count, collected or not.
        due(x, Call.number(0, 0), Call.TRUE);
        due(x, Call.make(0), 2);
        for (int n = 0; n < 40; n++) {
            due(x, Call.make(0), 2);
        }
    }

    private static void makeFullChangesNothing() {
        CHECKS.sentence("Promise 2: FULL, changing nothing");
        for (int r = 0; r < 6; r++) {
            UNCHANGED.whereObjects(24, Call.make(r), FULL);
        }
    }

    // ---- promise 3 ----------------------------------------------------------------------------

    private static void numberHeld() {
        CHECKS.sentence("Promise 3: Lets register r hold a number and answers true");
        for (int r : REGISTER_ENDS) {
            for (int v : NUMBER_ENDS) {
                CollectorSuite x = new CollectorSuite();
                due(x, Call.number(r, v), Call.TRUE);
                dueValue(x, r, v);
                // Over the only way to an object.
                x.make(r);
                due(x, Call.number(r, v), Call.TRUE);
                dueValue(x, r, v);
                dueCount(x, 0);
            }
        }
    }

    private static void numberRegisterOutOfRange() {
        CHECKS.sentence("Promise 3: false, changing nothing, when one is out of range: the register");
        for (int r : Outside.REGISTER) {
            for (int v : NUMBER_ENDS) {
                UNCHANGED.everywhere(Call.number(r, v), Call.FALSE);
            }
        }
    }

    private static void numberOutOfRange() {
        CHECKS.sentence("Promise 3: false, changing nothing, when one is out of range: the number");
        for (int v : Outside.NUMBER) {
            for (int r : REGISTER_ENDS) {
                UNCHANGED.everywhere(Call.number(r, v), Call.FALSE);
            }
        }
        for (int at = 0; at < 4; at++) {
            UNCHANGED.everywhere(Call.number(Outside.REGISTER[at], Outside.NUMBER[at]), Call.FALSE);
        }
    }

    // ---- promise 4 ----------------------------------------------------------------------------

    private static void copyHeld() {
        CHECKS.sentence("Promise 4: Lets register r hold what register s holds and answers true");
        for (int r : REGISTER_ENDS) {
            int s = 5 - r;
            CollectorSuite x = new CollectorSuite();
            for (int v : NUMBER_ENDS) {
                x.number(s, v);
                due(x, Call.copy(r, s), Call.TRUE);
                dueValue(x, r, v);
                dueValue(x, s, v);
            }
            x.make(s);
            due(x, Call.copy(r, s), Call.TRUE);
            dueSame(x, r, s, true);
            // Onto itself, when it is the only way to the object.
            x.number(r, 0);
            due(x, Call.copy(s, s), Call.TRUE);
            dueCount(x, 1);
            due(x, Call.copy(s, r), Call.TRUE);
            dueCount(x, 0);
        }
        CollectorSuite full = Scene.chain(24).play();
        for (int r = 0; r < 6; r++) {
            due(full, Call.copy(r, 0), Call.TRUE);
        }
        dueCount(full, 24);
    }

    private static void copyOutOfRange() {
        CHECKS.sentence("Promise 4: false when one is out of range");
        for (int none : Outside.REGISTER) {
            for (int r : REGISTER_ENDS) {
                UNCHANGED.everywhere(Call.copy(none, r), Call.FALSE);
                UNCHANGED.everywhere(Call.copy(r, none), Call.FALSE);
            }
            UNCHANGED.everywhere(Call.copy(none, none), Call.FALSE);
        }
    }

    // ---- promise 5 ----------------------------------------------------------------------------

    private static void getHeld() {
        CHECKS.sentence("Promise 5: Lets register r hold what field f of the object holds, and answers true");
        for (int s : REGISTER_ENDS) {
            for (int f : FIELD_ENDS) {
                int r = 5 - s;
                CollectorSuite x = new CollectorSuite();
                x.make(s);
                for (int v : NUMBER_ENDS) {
                    x.number(r, v);
                    x.put(s, f, r);
                    x.number(r, 1);
                    due(x, Call.get(r, s, f), Call.TRUE);
                    dueValue(x, r, v);
                    dueLook(x, s, f, v);
                }
                x.put(s, f, s);
                due(x, Call.get(r, s, f), Call.TRUE);
                dueSame(x, r, s, true);
                // From itself into itself, when it is the only way to the object.
                x.number(r, 0);
                due(x, Call.get(s, s, f), Call.TRUE);
                dueCount(x, 1);
                due(x, Call.get(s, s, 1), Call.TRUE);
                dueValue(x, s, 0);
                dueCount(x, 0);
            }
        }
    }

    private static void getOutOfRange() {
        CHECKS.sentence("Promise 5: false, changing nothing, when one is out of range");
        for (int none : Outside.REGISTER) {
            UNCHANGED.everywhere(Call.get(none, 0, 0), Call.FALSE);
            UNCHANGED.everywhere(Call.get(none, 0, 2), Call.FALSE);
            UNCHANGED.everywhere(Call.get(0, none, 0), Call.FALSE);
            UNCHANGED.everywhere(Call.get(5, none, 2), Call.FALSE);
            UNCHANGED.everywhere(Call.get(none, none, 0), Call.FALSE);
        }
        for (int none : Outside.FIELD) {
            UNCHANGED.everywhere(Call.get(0, 0, none), Call.FALSE);
            UNCHANGED.everywhere(Call.get(5, 0, none), Call.FALSE);
            UNCHANGED.everywhere(Call.get(none, none, none), Call.FALSE);
        }
    }

    private static void getFromNone() {
        CHECKS.sentence("Promise 5: false, changing nothing, when s refers to none");
        for (int s = 0; s < 6; s++) {
            for (int f = 0; f < 3; f++) {
                UNCHANGED.whereNoObject(s, Call.get(0, s, f), Call.FALSE);
                UNCHANGED.whereNoObject(s, Call.get(s, s, f), Call.FALSE);
            }
        }
    }

    // ---- promise 6 ----------------------------------------------------------------------------

    private static void putHeld() {
        CHECKS.sentence("Promise 6: Lets field f of the object hold what register s holds, and answers true");
        for (int r : REGISTER_ENDS) {
            for (int f : FIELD_ENDS) {
                int s = 5 - r;
                CollectorSuite x = new CollectorSuite();
                x.make(r);
                for (int v : NUMBER_ENDS) {
                    x.number(s, v);
                    due(x, Call.put(r, f, s), Call.TRUE);
                    dueLook(x, r, f, v);
                    dueLook(x, r, 1, 0);
                    dueLook(x, r, 2 - f, 0);
                    dueValue(x, s, v);
                }
                // Into itself, and over the only way to another one.
                due(x, Call.put(r, f, r), Call.TRUE);
                dueLook(x, r, f, OBJECT);
                x.make(s);
                due(x, Call.put(r, f, s), Call.TRUE);
                x.number(s, 0);
                dueCount(x, 2);
                due(x, Call.put(r, f, s), Call.TRUE);
                dueCount(x, 1);
            }
        }
        putWhenFull();
    }

    private static void putWhenFull() {
        CollectorSuite x = Scene.chain(24).play();
        for (int n = 0; n < 23; n++) {
            x.get(1, n == 0 ? 0 : 1, 0);
        }
        // The last of the row now refers to the first: a ring of twenty-four.
        due(x, Call.put(1, 0, 0), Call.TRUE);
        due(x, Call.number(0, 0), Call.TRUE);
        dueCount(x, 24);
        due(x, Call.make(0), FULL);
        due(x, Call.put(1, 0, 0), Call.TRUE);
        dueCount(x, 1);
        due(x, Call.make(0), 2);
    }

    private static void putOutOfRange() {
        CHECKS.sentence("Promise 6: false, changing nothing, when one is out of range");
        for (int none : Outside.REGISTER) {
            UNCHANGED.everywhere(Call.put(none, 0, 5), Call.FALSE);
            UNCHANGED.everywhere(Call.put(none, 2, 0), Call.FALSE);
            UNCHANGED.everywhere(Call.put(0, 0, none), Call.FALSE);
            UNCHANGED.everywhere(Call.put(0, 2, none), Call.FALSE);
            UNCHANGED.everywhere(Call.put(none, 0, none), Call.FALSE);
        }
        for (int none : Outside.FIELD) {
            UNCHANGED.everywhere(Call.put(0, none, 5), Call.FALSE);
            UNCHANGED.everywhere(Call.put(0, none, 0), Call.FALSE);
            UNCHANGED.everywhere(Call.put(none, none, none), Call.FALSE);
        }
    }

    private static void putIntoNone() {
        CHECKS.sentence("Promise 6: false, changing nothing, when r refers to none");
        for (int r = 0; r < 6; r++) {
            for (int f = 0; f < 3; f++) {
                UNCHANGED.whereNoObject(r, Call.put(r, f, 0), Call.FALSE);
                UNCHANGED.whereNoObject(r, Call.put(r, f, r), Call.FALSE);
            }
        }
    }
}
