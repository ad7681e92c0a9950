/** Each promise by itself: ordinary inputs, the edges that the document names, and wrong inputs. */
public final class PromiseTest {
    private static final int BAD = -1000;
    private static final int FULL = -2000;
    private static final int OBJECT = -3000;
    private static final int[] NO_REGISTER = {-1, 6, 7, 42, -6, Integer.MAX_VALUE, Integer.MIN_VALUE};
    private static final int[] NO_FIELD = {-1, 3, 4, -3, Integer.MAX_VALUE, Integer.MIN_VALUE};
    private static final int[] NO_COLLECTOR = {-1, 7, 8, -7, Integer.MAX_VALUE, Integer.MIN_VALUE};
    private static final int[] NO_NUMBER = {-1000, 1000, 1001, -1001, 1335, BAD, FULL, OBJECT,
        Integer.MAX_VALUE, Integer.MIN_VALUE};
    private static final Checks CHECKS = new Checks();
    private static int nextCollector = 0;

    private PromiseTest() {
    }

    public static void main(String[] args) {
        newObject();
        makeAnswersHowMany();
        makeGivesZeroFields();
        makeIsFull();
        makeRefused();
        makeManyWithoutCollecting();
        number();
        copy();
        get();
        put();
        value();
        look();
        same();
        count();
        reach();
        sum();
        collect();
        agree();
        soundAlways();
        refusedCallsChangeNothing();
        lastOfManyCalls();
        CHECKS.end();
    }

    private static void due(String call, long got, long want) {
        CHECKS.due(call, got, want);
    }

    private static void due(String call, boolean got, boolean want) {
        CHECKS.due(call, got, want);
    }

    /** What can be asked of a collector without changing anything, as one text. */
    private static String state(CollectorSuite x, int collector) {
        StringBuilder text = new StringBuilder();
        text.append(x.count(collector)).append(' ').append(x.sum(collector));
        for (int r = 0; r < 6; r++) {
            text.append(' ').append(x.value(collector, r)).append('#').append(x.reach(collector, r));
            for (int f = 0; f < 3; f++) {
                text.append(',').append(x.look(collector, r, f));
            }
            for (int s = 0; s < r; s++) {
                text.append(x.same(collector, r, s) ? 's' : 'd');
            }
        }
        return text.toString();
    }

    private static String state(CollectorSuite x) {
        return state(x, 0);
    }

    // Asks another collector each time: all must answer the same, and asking all of them each time
    // would go beyond the 512 calls that an object is promised for.
    private static void unchanged(String what, CollectorSuite x, String before) {
        nextCollector = (nextCollector + 1) % 7;
        due(what + " changes nothing in " + nextCollector, state(x, nextCollector).equals(before), true);
    }

    /** Twenty-four objects in a row: register 0 refers to the newest, field 0 to the one before. */
    private static CollectorSuite fullChain() {
        CollectorSuite x = new CollectorSuite();
        due("chain make(0)", x.make(0), 1);
        for (int n = 2; n <= 24; n++) {
            due("chain copy(1, 0)", x.copy(1, 0), true);
            due("chain make(0)", x.make(0), n);
            due("chain put(0, 0, 1)", x.put(0, 0, 1), true);
        }
        due("chain number(1, 0)", x.number(1, 0), true);
        return x;
    }

    private static CollectorSuite sample() {
        CollectorSuite x = new CollectorSuite();
        x.make(0);
        x.make(1);
        x.put(0, 0, 1);
        x.put(1, 2, 0);
        x.number(3, 17);
        x.put(1, 1, 3);
        x.copy(4, 1);
        return x;
    }

    // Promise 1
    private static void newObject() {
        CollectorSuite x = new CollectorSuite();
        for (int c = 0; c < 7; c++) {
            due("new count", x.count(c), 0);
            due("new sum", x.sum(c), 0);
            for (int r = 0; r < 6; r++) {
                due("new value", x.value(c, r), 0);
                due("new reach", x.reach(c, r), 0);
                due("new same", x.same(c, r, r), false);
                due("new look", x.look(c, r, 0), BAD);
            }
            due("new collect", x.collect(c), 0);
        }
        due("new sound", x.sound(), true);
        CollectorSuite other = new CollectorSuite();
        other.make(0);
        due("objects of the class are apart", x.count(0), 0);
    }

    // Promise 2
    private static void makeAnswersHowMany() {
        CollectorSuite x = new CollectorSuite();
        for (int r = 0; r < 6; r++) {
            due("make(" + r + ")", x.make(r), r + 1);
        }
        due("make over a register", x.make(3), 6);
        x.copy(0, 1);
        due("make over one of two that refer to it", x.make(0), 6);
        x = sample();
        x.number(4, 0);
        due("make over one that a field refers to", x.make(0), 3);
        due("make over the last way to a cycle", x.make(1), 2);
    }

    private static void makeGivesZeroFields() {
        CollectorSuite x = new CollectorSuite();
        x.number(5, 7);
        for (int n = 0; n < 60; n++) {
            x.make(0);
            for (int f = 0; f < 3; f++) {
                due("field of a new object", x.look(n % 7, 0, f), 0);
                x.put(0, f, 5);
                due("field of a used object", x.look(n % 7, 0, f), 7);
            }
        }
    }

    private static void makeIsFull() {
        CollectorSuite x = fullChain();
        String before = state(x);
        for (int r = 0; r < 6; r++) {
            due("make(" + r + ") of the twenty-fifth", x.make(r), FULL);
        }
        unchanged("a full make", x, before);
        for (int c = 0; c < 7; c++) {
            due("collect when full", x.collect(c), 24);
        }
        unchanged("collect when full", x, before);
        due("make after collecting", x.make(0), FULL);
        x.get(2, 0, 0);
        due("make when all are still come to", x.make(2), FULL);
        x.copy(0, 2);
        due("one can no longer be come to", x.count(3), 23);
        due("make of the twenty-fourth again", x.make(5), 24);
        due("make of the twenty-fifth again", x.make(5), FULL);
        x.number(0, 0);
        due("make when another register comes to them", x.make(0), FULL);
        x.number(2, 0);
        due("make when they cannot be come to any more", x.make(0), 2);
    }

    private static void makeRefused() {
        CollectorSuite x = sample();
        String before = state(x);
        for (int r : NO_REGISTER) {
            due("make(" + r + ")", x.make(r), BAD);
        }
        unchanged("a bad make", x, before);
        // Promise 16: BAD is tested before FULL.
        x = fullChain();
        for (int r : NO_REGISTER) {
            due("make(" + r + ") when full", x.make(r), BAD);
        }
    }

    private static void makeManyWithoutCollecting() {
        CollectorSuite loose = new CollectorSuite();
        CollectorSuite rings = new CollectorSuite();
        for (int n = 0; n < 120; n++) {
            due("make of one that is lost at once", loose.make(n % 6), n < 6 ? n + 1 : 6);
            due("make of one beside a lost ring", rings.make(0), 1);
            rings.put(0, n % 3, 0);
            due("rings sound", rings.sound(), true);
        }
        for (int c = 0; c < 7; c++) {
            due("keeps of loose ones", loose.collect(c), 6);
            due("keeps of rings", rings.collect(c), 1);
        }
        due("loose sound", loose.sound(), true);
    }

    // Promise 3
    private static void number() {
        CollectorSuite x = new CollectorSuite();
        int[] fine = {-999, -998, -1, 0, 1, 998, 999};
        for (int v : fine) {
            for (int r = 0; r < 6; r++) {
                due("number(" + r + ", " + v + ")", x.number(r, v), true);
                for (int c = 0; c < 7; c++) {
                    due("value after number", x.value(c, r), v);
                }
            }
        }
        x = sample();
        String before = state(x);
        for (int v : NO_NUMBER) {
            due("number(0, " + v + ")", x.number(0, v), false);
        }
        for (int r : NO_REGISTER) {
            due("number(" + r + ", 1)", x.number(r, 1), false);
        }
        unchanged("a refused number", x, before);
        due("number over an object", x.number(1, 5), true);
        due("value then", x.value(0, 1), 5);
        due("the object is still come to", x.count(0), 2);
        x.number(0, 5);
        x.number(4, 5);
        due("now none is", x.count(0), 0);
    }

    // Promise 4
    private static void copy() {
        CollectorSuite x = sample();
        String before = state(x);
        for (int s : NO_REGISTER) {
            due("copy(0, " + s + ")", x.copy(0, s), false);
            due("copy(" + s + ", 0)", x.copy(s, 0), false);
            due("copy(" + s + ", " + s + ")", x.copy(s, s), false);
        }
        unchanged("a refused copy", x, before);
        for (int r = 0; r < 6; r++) {
            due("copy onto itself", x.copy(r, r), true);
        }
        unchanged("copy onto itself", x, before);
        due("copy of an object", x.copy(5, 0), true);
        due("copy of a number", x.copy(0, 3), true);
        for (int c = 0; c < 7; c++) {
            due("copied object", x.value(c, 5), OBJECT);
            due("copied object's field", x.look(c, 5, 0), OBJECT);
            due("copied number", x.value(c, 0), 17);
            due("still two", x.count(c), 2);
        }
    }

    // Promise 5
    private static void get() {
        CollectorSuite x = sample();
        String before = state(x);
        for (int bad : NO_REGISTER) {
            due("get(" + bad + ", 0, 0)", x.get(bad, 0, 0), false);
            due("get(0, " + bad + ", 0)", x.get(0, bad, 0), false);
        }
        for (int bad : NO_FIELD) {
            due("get(0, 1, " + bad + ")", x.get(0, 1, bad), false);
        }
        due("get from a number", x.get(0, 3, 0), false);
        due("get from nought", x.get(0, 5, 2), false);
        unchanged("a refused get", x, before);
        due("get of an object", x.get(5, 1, 2), true);
        due("get of a number", x.get(3, 0, 1), true);
        for (int c = 0; c < 7; c++) {
            due("got object", x.same(c, 5, 0), true);
            due("got number", x.value(c, 3), 0);
        }
        due("get into its own register", x.get(1, 1, 1), true);
        due("value then", x.value(2, 1), 17);
        due("get leaves the field", x.look(6, 4, 1), 17);
    }

    // Promise 6
    private static void put() {
        CollectorSuite x = sample();
        String before = state(x);
        for (int bad : NO_REGISTER) {
            due("put(" + bad + ", 0, 0)", x.put(bad, 0, 0), false);
            due("put(0, 0, " + bad + ")", x.put(0, 0, bad), false);
        }
        for (int bad : NO_FIELD) {
            due("put(0, " + bad + ", 3)", x.put(0, bad, 3), false);
        }
        due("put into a number", x.put(3, 0, 0), false);
        due("put into nought", x.put(5, 2, 0), false);
        unchanged("a refused put", x, before);
        for (int f = 0; f < 3; f++) {
            x.number(5, 999 - f);
            due("put of a number", x.put(0, f, 5), true);
            x.number(5, f - 999);
            due("put of a number", x.put(1, f, 5), true);
        }
        for (int c = 0; c < 7; c++) {
            for (int f = 0; f < 3; f++) {
                due("put there", x.look(c, 0, f), 999 - f);
                due("put there", x.look(c, 1, f), f - 999);
                due("put through the other register", x.look(c, 4, f), f - 999);
            }
        }
        due("put of itself", x.put(0, 1, 0), true);
        for (int c = 0; c < 7; c++) {
            due("look at itself", x.look(c, 0, 1), OBJECT);
            due("reach of itself", x.reach(c, 0), 1);
        }
    }

    // Promise 7
    private static void value() {
        CollectorSuite x = sample();
        for (int c = 0; c < 7; c++) {
            due("value of an object", x.value(c, 0), OBJECT);
            due("value of a number", x.value(c, 3), 17);
            due("value of nought", x.value(c, 5), 0);
            for (int bad : NO_REGISTER) {
                due("value(" + c + ", " + bad + ")", x.value(c, bad), BAD);
            }
        }
        for (int bad : NO_COLLECTOR) {
            due("value(" + bad + ", 0)", x.value(bad, 0), BAD);
            due("value(" + bad + ", 6)", x.value(bad, 6), BAD);
        }
    }

    // Promise 8
    private static void look() {
        CollectorSuite x = sample();
        for (int c = 0; c < 7; c++) {
            due("look at an object", x.look(c, 0, 0), OBJECT);
            due("look at a number", x.look(c, 1, 1), 17);
            due("look at nought", x.look(c, 1, 0), 0);
            due("look at the last field", x.look(c, 4, 2), OBJECT);
            due("look into a number", x.look(c, 3, 0), BAD);
            for (int bad : NO_REGISTER) {
                due("look(" + c + ", " + bad + ", 0)", x.look(c, bad, 0), BAD);
            }
            for (int bad : NO_FIELD) {
                due("look(" + c + ", 0, " + bad + ")", x.look(c, 0, bad), BAD);
            }
        }
        for (int bad : NO_COLLECTOR) {
            due("look(" + bad + ", 0, 0)", x.look(bad, 0, 0), BAD);
        }
    }

    // Promise 9
    private static void same() {
        CollectorSuite x = sample();
        x.copy(5, 3);
        for (int c = 0; c < 7; c++) {
            due("same register", x.same(c, 0, 0), true);
            due("same object", x.same(c, 1, 4), true);
            due("same object, the other way", x.same(c, 4, 1), true);
            due("objects alike are not the same", x.same(c, 0, 1), false);
            due("an object and a number", x.same(c, 0, 3), false);
            due("equal numbers", x.same(c, 3, 5), false);
            due("one number", x.same(c, 2, 2), false);
            for (int bad : NO_REGISTER) {
                due("same(" + c + ", 0, " + bad + ")", x.same(c, 0, bad), false);
                due("same(" + c + ", " + bad + ", 0)", x.same(c, bad, 0), false);
                due("same(" + c + ", " + bad + ", " + bad + ")", x.same(c, bad, bad), false);
            }
        }
        for (int bad : NO_COLLECTOR) {
            due("same(" + bad + ", 0, 0)", x.same(bad, 0, 0), false);
        }
    }

    // Promise 10
    private static void count() {
        CollectorSuite x = sample();
        CollectorSuite full = fullChain();
        for (int c = 0; c < 7; c++) {
            due("count of a ring", x.count(c), 2);
            due("count when full", full.count(c), 24);
        }
        full.number(0, 0);
        for (int c = 0; c < 7; c++) {
            due("count without collecting", full.count(c), 0);
        }
        for (int bad : NO_COLLECTOR) {
            due("count(" + bad + ")", x.count(bad), BAD);
        }
    }

    // Promise 11
    private static void reach() {
        CollectorSuite x = fullChain();
        x.get(1, 0, 0);
        x.get(2, 1, 0);
        for (int c = 0; c < 7; c++) {
            due("reach of the first", x.reach(c, 0), 24);
            due("reach of the second", x.reach(c, 1), 23);
            due("reach of the third", x.reach(c, 2), 22);
            due("reach of a number", x.reach(c, 3), 0);
            due("reach of register 5", x.reach(c, 5), 0);
            for (int bad : NO_REGISTER) {
                due("reach(" + c + ", " + bad + ")", x.reach(c, bad), BAD);
            }
        }
        for (int bad : NO_COLLECTOR) {
            due("reach(" + bad + ", 0)", x.reach(bad, 0), BAD);
        }
        x = new CollectorSuite();
        x.make(5);
        x.make(0);
        x.put(5, 0, 0);
        x.put(5, 1, 0);
        x.put(5, 2, 0);
        for (int c = 0; c < 7; c++) {
            due("an object come to in three ways counts once", x.reach(c, 5), 2);
            due("what refers to it is not come to", x.reach(c, 0), 1);
        }
    }

    // Promise 12
    private static void sum() {
        CollectorSuite x = sample();
        for (int c = 0; c < 7; c++) {
            due("sum of a ring", x.sum(c), 17);
        }
        for (int bad : NO_COLLECTOR) {
            due("sum(" + bad + ")", x.sum(bad), BAD);
        }
        for (int sign = -1; sign <= 1; sign += 2) {
            x = new CollectorSuite();
            x.number(5, 999 * sign);
            for (int n = 1; n <= 24; n++) {
                x.copy(1, 0);
                x.make(0);
                x.put(0, 0, 1);
                x.put(0, 1, 5);
                x.put(0, 2, 5);
            }
            for (int c = 0; c < 7; c++) {
                due("sum of twenty-four", x.sum(c), 48 * 999 * sign);
            }
            x.get(0, 0, 0);
            x.number(1, 0);
            for (int c = 0; c < 7; c++) {
                due("sum leaves out what cannot be come to", x.sum(c), 46 * 999 * sign);
            }
        }
    }

    // Promise 13
    private static void collect() {
        for (int c = 0; c < 7; c++) {
            CollectorSuite x = fullChain();
            String before = state(x);
            due("collect(" + c + ") when full", x.collect(c), 24);
            unchanged("collect(" + c + ")", x, before);
            x.get(0, 0, 0);
            due("collect(" + c + ") of one less", x.collect(c), 23);
            due("collect(" + c + ") again", x.collect(c), 23);
            due("sound", x.sound(), true);
            x.get(1, 0, 0);
            x.put(1, 2, 0);
            x.number(0, 3);
            due("a ring beyond register 1", x.collect(c), 23);
            x.number(1, 3);
            due("collect(" + c + ") of a lost ring", x.collect(c), 0);
            due("sound", x.sound(), true);
        }
        CollectorSuite x = sample();
        String before = state(x);
        for (int bad : NO_COLLECTOR) {
            due("collect(" + bad + ")", x.collect(bad), BAD);
        }
        unchanged("a bad collect", x, before);
    }

    // Promise 14
    private static void agree() {
        CollectorSuite x = sample();
        for (int c = 0; c < 7; c++) {
            x.collect(c);
            for (int d = 0; d < 7; d++) {
                due("agree(" + c + ", " + d + ")", x.agree(c, d), true);
            }
            for (int bad : NO_COLLECTOR) {
                due("agree(" + c + ", " + bad + ")", x.agree(c, bad), false);
                due("agree(" + bad + ", " + c + ")", x.agree(bad, c), false);
            }
        }
        for (int bad : NO_COLLECTOR) {
            due("agree(" + bad + ", " + bad + ")", x.agree(bad, bad), false);
        }
    }

    // Promise 15
    private static void soundAlways() {
        CollectorSuite x = fullChain();
        due("sound when full", x.sound(), true);
        for (int c = 0; c < 7; c++) {
            x.get(0, 0, 0);
            due("sound before collecting", x.sound(), true);
            x.collect(c);
            due("sound after collecting", x.sound(), true);
        }
    }

    // Promise 16
    private static void refusedCallsChangeNothing() {
        CollectorSuite x = sample();
        String before = state(x);
        x.make(6);
        x.number(6, 0);
        x.number(0, 1000);
        x.copy(6, 0);
        x.copy(0, 6);
        x.get(0, 1, 3);
        x.get(0, 2, 0);
        x.put(2, 0, 0);
        x.put(0, 3, 0);
        x.value(7, 0);
        x.look(0, 2, 0);
        x.same(7, 0, 0);
        x.count(7);
        x.reach(0, 6);
        x.sum(-1);
        x.collect(7);
        x.agree(0, 7);
        for (int c = 0; c < 7; c++) {
            unchanged("all refused calls", x, before);
        }
        due("sound after the refused calls", x.sound(), true);
    }

    private static void lastOfManyCalls() {
        CollectorSuite x = new CollectorSuite();
        for (int call = 1; call < 511; call++) {
            due("make in call " + call, x.make(call % 6), call < 6 ? call : 6);
        }
        due("call 511", x.sound(), true);
        due("call 512", x.collect(6), 6);
    }
}
