import java.util.List;

/** The boundary cases that the document names under 'Terms', a method for each sentence. */
public final class TermsEdgeTest {
    private static final int BAD = -1000;
    private static final int FULL = -2000;
    private static final int OBJECT = -3000;
    private static final Checks CHECKS = new Checks();

    private TermsEdgeTest() {
    }

    public static void main(String[] args) {
        scenesAreBuilt();
        registersAreZeroToFive();
        fieldsAreZeroToTwo();
        numbersAreWithin999();
        everyRegisterAndFieldCanRefer();
        atFirstRegistersHoldZero();
        cameToFromTheRegisterItself();
        cameToThroughFields();
        notCameTo();
        atMostTwentyFour();
        collectorsAreZeroToSix();
        noAnswerDependsOnTheCollector();
        CHECKS.end();
    }

    private static void due(String call, long got, long want) {
        CHECKS.due(call, got, want);
    }

    private static void due(String call, boolean got, boolean want) {
        CHECKS.due(call, got, want);
    }

    private static void due(CollectorSuite x, Call call, int want) {
        CHECKS.due(call.text(), call.on(x), want);
    }

    private static void scenesAreBuilt() {
        CHECKS.sentence("the states that the tests of the edges begin with");
        for (Scene scene : Scene.all()) {
            CollectorSuite x = new CollectorSuite();
            for (Call call : scene.calls) {
                due(scene.name + ": " + call.text() + " is not refused", call.on(x) > 0, true);
            }
            for (int r = 0; r < 6; r++) {
                due(scene.name + ": register " + r, x.value(r, r) == OBJECT, scene.refers(r));
            }
            due(scene.name + ": objects", x.count(6), scene.objects);
        }
    }

    private static void registersAreZeroToFive() {
        CHECKS.sentence("There are REGISTERS 0 .. 5.");
        for (int r : new int[] {0, 5}) {
            CollectorSuite x = new CollectorSuite();
            due(x, Call.make(r), 1);
            due(x, Call.put(r, 0, r), Call.TRUE);
            due(x, Call.copy(3, r), Call.TRUE);
            due(x, Call.get(3, r, 0), Call.TRUE);
            due(x, Call.get(r, 3, 0), Call.TRUE);
            due(x, Call.value(0, r), OBJECT);
            due(x, Call.look(0, r, 0), OBJECT);
            due(x, Call.same(0, r, 3), Call.TRUE);
            due(x, Call.same(0, 3, r), Call.TRUE);
            due(x, Call.reach(0, r), 1);
            due(x, Call.number(r, 7), Call.TRUE);
            due(x, Call.put(3, 1, r), Call.TRUE);
            due(x, Call.look(0, 3, 1), 7);
            due(x, Call.copy(r, 3), Call.TRUE);
            due(x, Call.same(0, r, 3), Call.TRUE);
        }
        CollectorSuite x = Scene.mixed().play();
        for (int none : Outside.REGISTER) {
            due(x, Call.make(none), BAD);
            due(x, Call.number(none, 7), Call.FALSE);
            due(x, Call.copy(none, 0), Call.FALSE);
            due(x, Call.copy(0, none), Call.FALSE);
            due(x, Call.get(none, 0, 0), Call.FALSE);
            due(x, Call.get(0, none, 0), Call.FALSE);
            due(x, Call.put(none, 0, 0), Call.FALSE);
            due(x, Call.put(0, 0, none), Call.FALSE);
            due(x, Call.value(0, none), BAD);
            due(x, Call.look(0, none, 0), BAD);
            due(x, Call.same(0, none, 0), Call.FALSE);
            due(x, Call.same(0, 0, none), Call.FALSE);
            due(x, Call.reach(0, none), BAD);
        }
        registersAreApart();
    }

    private static void registersAreApart() {
        for (int changed = 0; changed < 6; changed++) {
            CollectorSuite x = new CollectorSuite();
            for (int r = 0; r < 6; r++) {
                x.number(r, 10 + r);
            }
            x.number(changed, 99);
            for (int r = 0; r < 6; r++) {
                due(x, Call.value(r, r), r == changed ? 99 : 10 + r);
            }
        }
    }

    private static void fieldsAreZeroToTwo() {
        CHECKS.sentence("An OBJECT has FIELDS 0, 1 and 2.");
        CollectorSuite x = new CollectorSuite();
        x.make(0);
        for (int f = 0; f < 3; f++) {
            due(x, Call.number(1, 10 + f), Call.TRUE);
            due(x, Call.put(0, f, 1), Call.TRUE);
        }
        for (int f = 0; f < 3; f++) {
            due(x, Call.get(2, 0, f), Call.TRUE);
            due(x, Call.value(6, 2), 10 + f);
            for (int c = 0; c < 7; c++) {
                due(x, Call.look(c, 0, f), 10 + f);
            }
        }
        for (int none : Outside.FIELD) {
            due(x, Call.put(0, none, 1), Call.FALSE);
            due(x, Call.get(2, 0, none), Call.FALSE);
            for (int c = 0; c < 7; c++) {
                due(x, Call.look(c, 0, none), BAD);
            }
        }
    }

    private static void numbersAreWithin999() {
        CHECKS.sentence("Every register and every field holds a NUMBER (-999 .. 999)");
        for (int v = -999; v <= 999; v++) {
            CollectorSuite x = new CollectorSuite();
            int c = Math.floorMod(v, 7);
            for (int r = 0; r < 6; r++) {
                due(x, Call.number(r, v), Call.TRUE);
                due(x, Call.value(c, r), v);
            }
            x.make(0);
            for (int f = 0; f < 3; f++) {
                due(x, Call.put(0, f, 1 + f), Call.TRUE);
                due(x, Call.look(c, 0, f), v);
                due(x, Call.get(5, 0, f), Call.TRUE);
                due(x, Call.value(c, 5), v);
            }
        }
        CollectorSuite x = new CollectorSuite();
        for (int none : Outside.NUMBER) {
            for (int r = 0; r < 6; r++) {
                due(x, Call.number(r, none), Call.FALSE);
                due(x, Call.value(r, r), 0);
            }
        }
    }

    private static void everyRegisterAndFieldCanRefer() {
        CHECKS.sentence("Every register and every field holds a number or refers to an object");
        for (int r = 0; r < 6; r++) {
            CollectorSuite x = new CollectorSuite();
            int s = (r + 1) % 6;
            due(x, Call.make(r), 1);
            due(x, Call.make(s), 2);
            for (int f = 0; f < 3; f++) {
                due(x, Call.put(r, f, s), Call.TRUE);
            }
            for (int c = 0; c < 7; c++) {
                due(x, Call.value(c, r), OBJECT);
                for (int f = 0; f < 3; f++) {
                    due(x, Call.look(c, r, f), OBJECT);
                }
            }
            due(x, Call.number(s, 0), Call.TRUE);
            for (int f = 0; f < 3; f++) {
                due(x, Call.get(s, r, f), Call.TRUE);
                due(x, Call.look(f, s, f), 0);
                due(x, Call.count(f), 2);
            }
        }
    }

    private static void atFirstRegistersHoldZero() {
        CHECKS.sentence("at first registers hold 0");
        CollectorSuite x = new CollectorSuite();
        for (int c = 0; c < 7; c++) {
            for (int r = 0; r < 6; r++) {
                due(x, Call.value(c, r), 0);
            }
        }
        x.make(0);
        for (int r = 1; r < 6; r++) {
            due(x, Call.put(0, 1, r), Call.TRUE);
            due(x, Call.look(r, 0, 1), 0);
        }
    }

    private static void cameToFromTheRegisterItself() {
        CHECKS.sentence("An object CAN BE COME TO from a register when the register refers to it");
        for (int r = 0; r < 6; r++) {
            CollectorSuite x = new CollectorSuite();
            due(x, Call.make(r), 1);
            for (int c = 0; c < 7; c++) {
                due(x, Call.collect(c), 1);
                due(x, Call.reach(c, r), 1);
                due(x, Call.reach(c, (r + 1) % 6), 0);
            }
            // A second register refers to it too: it is still one, and still come to without r.
            x.copy((r + 1) % 6, r);
            for (int c = 0; c < 7; c++) {
                due(x, Call.count(c), 1);
            }
            x.number(r, 0);
            for (int c = 0; c < 7; c++) {
                due(x, Call.collect(c), 1);
                due(x, Call.reach(c, r), 0);
            }
        }
    }

    private static void cameToThroughFields() {
        CHECKS.sentence("or a field of an object that can be come to from it does");
        for (int f = 0; f < 3; f++) {
            CollectorSuite x = new CollectorSuite();
            x.make(0);
            for (int n = 2; n <= 24; n++) {
                x.copy(1, 0);
                x.make(0);
                x.put(0, f, 1);
            }
            x.number(1, 0);
            for (int c = 0; c < 7; c++) {
                due("row through field " + f + ": reach", x.reach(c, 0), 24);
                due("row through field " + f + ": collect", x.collect(c), 24);
            }
            for (int deep = 1; deep < 24; deep++) {
                due(x, Call.look(deep % 7, 0, f), OBJECT);
                due(x, Call.get(0, 0, f), Call.TRUE);
                due(x, Call.reach(deep % 7, 0), 24 - deep);
            }
            due("the last of the row", x.look(0, 0, f), 0);
        }
    }

    private static void notCameTo() {
        CHECKS.sentence("what neither a register nor such a field refers to cannot be come to");
        CollectorSuite x = new CollectorSuite();
        // Two that refer to each other and to themselves, and to the one that stays.
        x.make(0);
        x.make(1);
        x.make(2);
        x.put(1, 0, 2);
        x.put(2, 0, 1);
        x.put(1, 1, 1);
        x.put(2, 1, 2);
        x.put(1, 2, 0);
        x.put(2, 2, 0);
        for (int c = 0; c < 7; c++) {
            due("what refers to it does not count", x.reach(c, 0), 1);
            due("a ring counts once", x.reach(c, 1), 3);
            due("a ring counts once from its other end", x.reach(c, 2), 3);
        }
        x.number(1, 0);
        x.number(2, 0);
        for (int c = 0; c < 7; c++) {
            due("a ring is not come to from itself", x.count(c), 1);
        }
        for (int c = 0; c < 7; c++) {
            due("a ring is not kept by itself", x.collect(c), 1);
        }
    }

    private static void atMostTwentyFour() {
        CHECKS.sentence("At most 24 objects can be come to from registers at any time.");
        for (Scene scene : List.of(Scene.chain(23), Scene.litter(Scene.chain(23)))) {
            CollectorSuite x = scene.play();
            due(scene.name, x.count(0), 23);
            due(x, Call.make(4), 24);
            due(x, Call.make(4), FULL);
            due(x, Call.make(3), FULL);
            for (int c = 0; c < 7; c++) {
                due(x, Call.count(c), 24);
            }
        }
        for (Scene scene : Scene.full()) {
            CollectorSuite x = scene.play();
            for (int n = 0; n < 30; n++) {
                due(x, Call.make(n % 6), FULL);
            }
            for (int c = 0; c < 7; c++) {
                due(x, Call.count(c), 24);
                due(x, Call.collect(c), 24);
                due(x, Call.count(c), 24);
            }
        }
        widestTree();
    }

    /** Each object refers to three more, as long as there is room: none lies deep. */
    private static void widestTree() {
        CollectorSuite x = new CollectorSuite();
        due(x, Call.make(0), 1);
        int objects = 1;
        for (int parent = 0; parent < 8; parent++) {
            walkTo(x, parent);
            for (int f = 0; f < 3 && objects < 24; f++) {
                objects++;
                due(x, Call.make(2), objects);
                due(x, Call.put(1, f, 2), Call.TRUE);
            }
        }
        due(x, Call.make(2), FULL);
        x.number(1, 0);
        x.number(2, 0);
        for (int c = 0; c < 7; c++) {
            due(x, Call.reach(c, 0), 24);
            due(x, Call.collect(c), 24);
        }
        due(x, Call.make(2), FULL);
        due(x, Call.sound(), Call.TRUE);
    }

    /** Lets register 1 refer to the tree's object with this number, the root being 0. */
    private static void walkTo(CollectorSuite x, int number) {
        x.copy(1, 0);
        if (number > 3) {
            x.get(1, 1, (number - 4) / 3);
            x.get(1, 1, (number - 4) % 3);
        } else if (number > 0) {
            x.get(1, 1, number - 1);
        }
    }

    private static void collectorsAreZeroToSix() {
        CHECKS.sentence("A COLLECTOR is a number 0 .. 6");
        CollectorSuite x = Scene.mixed().play();
        for (int c : new int[] {0, 6}) {
            due(x, Call.value(c, 2), 999);
            due(x, Call.look(c, 1, 1), 17);
            due(x, Call.same(c, 0, 3), Call.TRUE);
            due(x, Call.count(c), 3);
            due(x, Call.reach(c, 0), 3);
            due(x, Call.sum(c), 17 - 999);
            due(x, Call.collect(c), 3);
            due(x, Call.agree(c, 3), Call.TRUE);
            due(x, Call.agree(3, c), Call.TRUE);
        }
        for (int none : Outside.COLLECTOR) {
            due(x, Call.value(none, 2), BAD);
            due(x, Call.look(none, 1, 1), BAD);
            due(x, Call.same(none, 0, 3), Call.FALSE);
            due(x, Call.count(none), BAD);
            due(x, Call.reach(none, 0), BAD);
            due(x, Call.sum(none), BAD);
            due(x, Call.collect(none), BAD);
            due(x, Call.agree(none, 3), Call.FALSE);
            due(x, Call.agree(3, none), Call.FALSE);
        }
    }

    private static void noAnswerDependsOnTheCollector() {
        CHECKS.sentence("which one is asked; no answer depends on it");
        for (Scene scene : Scene.all()) {
            List<Call> first = Later.picture(0);
            for (int c = 1; c < 7; c++) {
                List<Call> other = Later.picture(c);
                CollectorSuite x = scene.play();
                for (int at = 0; at < first.size(); at++) {
                    due("in " + scene.name + ": " + other.get(at).text(), other.get(at).on(x),
                            first.get(at).on(x));
                }
                due("in " + scene.name + ": collect(" + c + ")", x.collect(c), x.collect(0));
            }
        }
        oneAskedByOne();
    }

    /** Each collector collects in turn while objects come and go: only the one that is asked. */
    private static void oneAskedByOne() {
        for (int asked = 0; asked < 7; asked++) {
            CollectorSuite x = new CollectorSuite();
            for (int n = 0; n < 60; n++) {
                due("make", x.make(n % 6), n < 6 ? n + 1 : 6);
                x.put(n % 6, n % 3, n % 6);
                due("collect(" + asked + ")", x.collect(asked), n < 6 ? n + 1 : 6);
                due("count(" + (n % 7) + ")", x.count(n % 7), n < 6 ? n + 1 : 6);
            }
            for (int c = 0; c < 7; c++) {
                due("agree(" + asked + ", " + c + ")", x.agree(asked, c), true);
            }
        }
    }
}
