import java.util.Arrays;
import java.util.List;

/** Each promise by itself, with ordinary inputs; edges and wrong inputs are the EdgeTests' matter. */
public final class PromiseTest {
    private static final int BAD = -1000;
    private static final int OBJECT = -3000;
    private static final Checks CHECKS = new Checks();

    private PromiseTest() {
    }

    public static void main(String[] args) {
        newObject();
        makeAnswersHowMany();
        makeGivesZeroFields();
        makeManyWithoutCollecting();
        number();
        copy();
        get();
        put();
        value();
        look();
        same();
        count();
        reach();
        sum();
        collect();
        agree();
        soundAlways();
        CHECKS.end();
    }

    private static void due(String call, long got, long want) {
        CHECKS.due(call, got, want);
    }

    private static void due(String call, boolean got, boolean want) {
        CHECKS.due(call, got, want);
    }

    /** Twenty-four objects in a row: register 0 refers to the newest, field 0 to the one before. */
    private static CollectorSuite fullChain() {
        CollectorSuite x = new CollectorSuite();
        due("chain make(0)", x.make(0), 1);
        for (int n = 2; n <= 24; n++) {
            due("chain copy(1, 0)", x.copy(1, 0), true);
            due("chain make(0)", x.make(0), n);
            due("chain put(0, 0, 1)", x.put(0, 0, 1), true);
        }
        due("chain number(1, 0)", x.number(1, 0), true);
        return x;
    }

    private static CollectorSuite sample() {
        CollectorSuite x = new CollectorSuite();
        x.make(0);
        x.make(1);
        x.put(0, 0, 1);
        x.put(1, 2, 0);
        x.number(3, 17);
        x.put(1, 1, 3);
        x.copy(4, 1);
        return x;
    }

    // Promise 1
    private static void newObject() {
        CollectorSuite x = new CollectorSuite();
        for (int c = 0; c < 7; c++) {
            due("new count", x.count(c), 0);
            due("new sum", x.sum(c), 0);
            for (int r = 0; r < 6; r++) {
                due("new value", x.value(c, r), 0);
                due("new reach", x.reach(c, r), 0);
                due("new same", x.same(c, r, r), false);
                due("new look", x.look(c, r, 0), BAD);
            }
            due("new collect", x.collect(c), 0);
        }
        due("new sound", x.sound(), true);
        CollectorSuite other = new CollectorSuite();
        other.make(0);
        due("objects of the class are apart", x.count(0), 0);
    }

    // Promise 2
    private static void makeAnswersHowMany() {
        CollectorSuite x = new CollectorSuite();
        for (int r = 0; r < 6; r++) {
            due("make(" + r + ")", x.make(r), r + 1);
        }
        due("make over a register", x.make(3), 6);
        x.copy(0, 1);
        due("make over one of two that refer to it", x.make(0), 6);
        x = sample();
        x.number(4, 0);
        due("make over one that a field refers to", x.make(0), 3);
        due("make over the last way to a cycle", x.make(1), 2);
    }

    private static void makeGivesZeroFields() {
        CollectorSuite x = new CollectorSuite();
        x.number(5, 7);
        for (int n = 0; n < 50; n++) {
            x.make(0);
            for (int f = 0; f < 3; f++) {
                due("field of a new object", x.look(n % 7, 0, f), 0);
                x.put(0, f, 5);
                due("field of a used object", x.look(n % 7, 0, f), 7);
            }
        }
    }

    private static void makeManyWithoutCollecting() {
        CollectorSuite loose = new CollectorSuite();
        CollectorSuite rings = new CollectorSuite();
        for (int n = 0; n < 120; n++) {
            due("make of one that is lost at once", loose.make(n % 6), n < 6 ? n + 1 : 6);
            due("make of one beside a lost ring", rings.make(0), 1);
            rings.put(0, n % 3, 0);
            due("rings sound", rings.sound(), true);
        }
        for (int c = 0; c < 7; c++) {
            due("keeps of loose ones", loose.collect(c), 6);
            due("keeps of rings", rings.collect(c), 1);
        }
        due("loose sound", loose.sound(), true);
    }

    // Promise 3
    private static void number() {
        CollectorSuite x = new CollectorSuite();
        int[] fine = {-999, -998, -1, 0, 1, 998, 999};
        for (int v : fine) {
            for (int r = 0; r < 6; r++) {
                due("number(" + r + ", " + v + ")", x.number(r, v), true);
                for (int c = 0; c < 7; c++) {
                    due("value after number", x.value(c, r), v);
                }
            }
        }
        x = sample();
        due("number over an object", x.number(1, 5), true);
        due("value then", x.value(0, 1), 5);
        due("the object is still come to", x.count(0), 2);
        x.number(0, 5);
        x.number(4, 5);
        due("now none is", x.count(0), 0);
    }

    // Promise 4
    private static void copy() {
        CollectorSuite x = sample();
        List<Call> picture = Later.picture(3);
        int[] before = Call.answers(x, picture);
        for (int r = 0; r < 6; r++) {
            due("copy onto itself", x.copy(r, r), true);
        }
        due("copy onto itself changes nothing", Arrays.equals(Call.answers(x, picture), before), true);
        due("copy of an object", x.copy(5, 0), true);
        due("copy of a number", x.copy(0, 3), true);
        for (int c = 0; c < 7; c++) {
            due("copied object", x.value(c, 5), OBJECT);
            due("copied object's field", x.look(c, 5, 0), OBJECT);
            due("copied number", x.value(c, 0), 17);
            due("still two", x.count(c), 2);
        }
    }

    // Promise 5
    private static void get() {
        CollectorSuite x = sample();
        due("get of an object", x.get(5, 1, 2), true);
        due("get of a number", x.get(3, 0, 1), true);
        for (int c = 0; c < 7; c++) {
            due("got object", x.same(c, 5, 0), true);
            due("got number", x.value(c, 3), 0);
        }
        due("get into its own register", x.get(1, 1, 1), true);
        due("value then", x.value(2, 1), 17);
        due("get leaves the field", x.look(6, 4, 1), 17);
    }

    // Promise 6
    private static void put() {
        CollectorSuite x = sample();
        for (int f = 0; f < 3; f++) {
            x.number(5, 999 - f);
            due("put of a number", x.put(0, f, 5), true);
            x.number(5, f - 999);
            due("put of a number", x.put(1, f, 5), true);
        }
        for (int c = 0; c < 7; c++) {
            for (int f = 0; f < 3; f++) {
                due("put there", x.look(c, 0, f), 999 - f);
                due("put there", x.look(c, 1, f), f - 999);
                due("put through the other register", x.look(c, 4, f), f - 999);
            }
        }
        due("put of itself", x.put(0, 1, 0), true);
        for (int c = 0; c < 7; c++) {
            due("look at itself", x.look(c, 0, 1), OBJECT);
            due("reach of itself", x.reach(c, 0), 1);
        }
    }

    // Promise 7
    private static void value() {
        CollectorSuite x = sample();
        for (int c = 0; c < 7; c++) {
            due("value of an object", x.value(c, 0), OBJECT);
            due("value of a number", x.value(c, 3), 17);
            due("value of nought", x.value(c, 5), 0);
        }
    }

    // Promise 8
    private static void look() {
        CollectorSuite x = sample();
        for (int c = 0; c < 7; c++) {
            due("look at an object", x.look(c, 0, 0), OBJECT);
            due("look at a number", x.look(c, 1, 1), 17);
            due("look at nought", x.look(c, 1, 0), 0);
            due("look at the last field", x.look(c, 4, 2), OBJECT);
        }
    }

    // Promise 9
    private static void same() {
        CollectorSuite x = sample();
        x.copy(5, 3);
        for (int c = 0; c < 7; c++) {
            due("same register", x.same(c, 0, 0), true);
            due("same object", x.same(c, 1, 4), true);
            due("same object, the other way", x.same(c, 4, 1), true);
            due("objects alike are not the same", x.same(c, 0, 1), false);
            due("an object and a number", x.same(c, 0, 3), false);
            due("equal numbers", x.same(c, 3, 5), false);
            due("one number", x.same(c, 2, 2), false);
        }
    }

    // Promise 10
    private static void count() {
        CollectorSuite x = sample();
        CollectorSuite full = fullChain();
        for (int c = 0; c < 7; c++) {
            due("count of a ring", x.count(c), 2);
            due("count when full", full.count(c), 24);
        }
        full.number(0, 0);
        for (int c = 0; c < 7; c++) {
            due("count without collecting", full.count(c), 0);
        }
    }

    // Promise 11
    private static void reach() {
        CollectorSuite x = fullChain();
        x.get(1, 0, 0);
        x.get(2, 1, 0);
        for (int c = 0; c < 7; c++) {
            due("reach of the first", x.reach(c, 0), 24);
            due("reach of the second", x.reach(c, 1), 23);
            due("reach of the third", x.reach(c, 2), 22);
            due("reach of a number", x.reach(c, 3), 0);
            due("reach of register 5", x.reach(c, 5), 0);
        }
        x = new CollectorSuite();
        x.make(5);
        x.make(0);
        x.put(5, 0, 0);
        x.put(5, 1, 0);
        x.put(5, 2, 0);
        for (int c = 0; c < 7; c++) {
            due("an object come to in three ways counts once", x.reach(c, 5), 2);
            due("what refers to it is not come to", x.reach(c, 0), 1);
        }
    }

    // Promise 12
    private static void sum() {
        CollectorSuite x = sample();
        for (int c = 0; c < 7; c++) {
            due("sum of a ring", x.sum(c), 17);
        }
        for (int sign = -1; sign <= 1; sign += 2) {
            x = new CollectorSuite();
            x.number(5, 999 * sign);
            for (int n = 1; n <= 24; n++) {
                x.copy(1, 0);
                x.make(0);
                x.put(0, 0, 1);
                x.put(0, 1, 5);
                x.put(0, 2, 5);
            }
            for (int c = 0; c < 7; c++) {
                due("sum of twenty-four", x.sum(c), 48 * 999 * sign);
            }
            x.get(0, 0, 0);
            x.number(1, 0);
            for (int c = 0; c < 7; c++) {
                due("sum leaves out what cannot be come to", x.sum(c), 46 * 999 * sign);
            }
        }
    }

    // Promise 13
    private static void collect() {
        for (int c = 0; c < 7; c++) {
            CollectorSuite x = fullChain();
            due("collect(" + c + ") when full", x.collect(c), 24);
            x.get(0, 0, 0);
            due("collect(" + c + ") of one less", x.collect(c), 23);
            due("collect(" + c + ") again", x.collect(c), 23);
            due("sound", x.sound(), true);
            x.get(1, 0, 0);
            x.put(1, 2, 0);
            x.number(0, 3);
            due("a ring beyond register 1", x.collect(c), 23);
            x.number(1, 3);
            due("collect(" + c + ") of a lost ring", x.collect(c), 0);
            due("sound", x.sound(), true);
        }
    }

    // Promise 14
    private static void agree() {
        CollectorSuite x = sample();
        for (int c = 0; c < 7; c++) {
            x.collect(c);
            for (int d = 0; d < 7; d++) {
                due("agree(" + c + ", " + d + ")", x.agree(c, d), true);
            }
        }
    }

    // Promise 15
    private static void soundAlways() {
        CollectorSuite x = fullChain();
        due("sound when full", x.sound(), true);
        for (int c = 0; c < 7; c++) {
            x.get(0, 0, 0);
            due("sound before collecting", x.sound(), true);
            x.collect(c);
            due("sound after collecting", x.sound(), true);
        }
    }
}
