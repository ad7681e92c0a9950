import java.util.ArrayDeque;
import java.util.Collections;
import java.util.IdentityHashMap;
import java.util.Set;

/**
 * Long runs of calls, the same every time, against a model that is nothing but the document's
 * words: registers that hold numbers or Java objects with three fields.
 */
public final class ModelTest {
    private static final int RUNS = 3000;
    // An object is promised for 512 calls: some runs use all of them, the others leave room to look
    // at everything in the end.
    private static final int CALLS = 512;
    private static final int LAST_LOOK = 160;
    private static final Checks CHECKS = new Checks();

    private long state;
    private CollectorSuite suite;
    private Object[] register;
    private int run;
    private int calls = 0;

    private ModelTest(int run) {
        this.run = run;
        this.state = 88172645463325252L + run * 1000003L;
        this.suite = new CollectorSuite();
        this.register = new Object[] {0, 0, 0, 0, 0, 0};
    }

    public static void main(String[] args) {
        for (int run = 0; run < RUNS; run++) {
            new ModelTest(run).play();
        }
        CHECKS.end();
    }

    private int below(int bound) {
        state ^= state << 13;
        state ^= state >>> 7;
        state ^= state << 17;
        return (int) Math.floorMod(state, (long) bound);
    }

    private void due(String call, long got, long want) {
        calls++;
        CHECKS.due("run " + run + ": " + call, got, want);
    }

    private void due(String call, boolean got, boolean want) {
        due(call, got ? 1L : 0L, want ? 1L : 0L);
    }

    /** Now and then a number one beside the range, or far away from it. */
    private int near(int bound) {
        int dice = below(60);
        return dice == 0 ? -1 : dice == 1 ? bound : dice == 2 ? (int) state : below(bound);
    }

    private static boolean in(int number, int bound) {
        return number >= 0 && number < bound;
    }

    private Set<Object> cameTo(int first, int end) {
        Set<Object> found = Collections.newSetFromMap(new IdentityHashMap<>());
        ArrayDeque<Object[]> waiting = new ArrayDeque<>();
        for (int r = first; r < end; r++) {
            if (register[r] instanceof Object[] object && found.add(object)) {
                waiting.add(object);
            }
        }
        while (!waiting.isEmpty()) {
            for (Object held : waiting.remove()) {
                if (held instanceof Object[] object && found.add(object)) {
                    waiting.add(object);
                }
            }
        }
        return found;
    }

    private int objects() {
        return cameTo(0, 6).size();
    }

    private static int shown(Object held) {
        return held instanceof Integer number ? number : CollectorSuite.OBJECT;
    }

    /** The kinds of run differ in how often objects are made, linked and let go. */
    private void play() {
        int kind = run % 5;
        int makes = new int[] {20, 40, 70, 30, 15}[kind];
        int puts = new int[] {25, 35, 15, 45, 50}[kind];
        int gets = new int[] {20, 5, 5, 15, 25}[kind];
        int numbers = new int[] {10, 2, 2, 3, 4}[kind];
        int all = makes + puts + gets + numbers;
        boolean toTheEnd = run % 3 == 0;
        int last = toTheEnd ? CALLS : CALLS - LAST_LOOK;
        while (calls < last) {
            int dice = below(all + all / 3);
            if (dice < makes) {
                make();
            } else if (dice < makes + puts) {
                put();
            } else if (dice < makes + puts + gets) {
                get();
            } else if (dice < all) {
                numberOrCopy();
            } else {
                ask();
            }
        }
        if (!toTheEnd) {
            lastLook(run % 7);
        }
    }

    private void make() {
        int r = near(6);
        int want = CollectorSuite.BAD;
        if (in(r, 6)) {
            want = CollectorSuite.FULL;
            if (objects() < 24) {
                // Kept within reach in most runs, so that twenty-four are come to often.
                if (run % 2 == 0 && calls + 2 <= CALLS && register[r] instanceof Object[]) {
                    keepInField(r);
                }
                register[r] = new Object[] {0, 0, 0};
                want = objects();
            }
        }
        due("make(" + r + ")", suite.make(r), want);
    }

    private void keepInField(int r) {
        int holder = (r + 1) % 6;
        if (register[holder] instanceof Object[] object) {
            int f = below(3);
            object[f] = register[r];
            due("put to keep", suite.put(holder, f, r), true);
        }
    }

    private void put() {
        int r = near(6);
        int f = near(3);
        int s = near(6);
        boolean want = in(r, 6) && in(f, 3) && in(s, 6) && register[r] instanceof Object[];
        if (want) {
            ((Object[]) register[r])[f] = register[s];
        }
        due("put(" + r + ", " + f + ", " + s + ")", suite.put(r, f, s), want);
    }

    private void get() {
        int r = near(6);
        int s = near(6);
        int f = near(3);
        boolean want = in(r, 6) && in(s, 6) && in(f, 3) && register[s] instanceof Object[];
        if (want) {
            register[r] = ((Object[]) register[s])[f];
        }
        due("get(" + r + ", " + s + ", " + f + ")", suite.get(r, s, f), want);
    }

    private void numberOrCopy() {
        int r = near(6);
        if (below(2) == 0) {
            int v = near(1999) - 999;
            boolean want = in(r, 6) && v >= -999 && v <= 999;
            if (want) {
                register[r] = v;
            }
            due("number(" + r + ", " + v + ")", suite.number(r, v), want);
        } else {
            int s = near(6);
            boolean want = in(r, 6) && in(s, 6);
            if (want) {
                register[r] = register[s];
            }
            due("copy(" + r + ", " + s + ")", suite.copy(r, s), want);
        }
    }

    private void ask() {
        int c = near(7);
        int r = near(6);
        int s = near(6);
        int f = near(3);
        boolean there = in(c, 7) && in(r, 6);
        Object held = there ? register[r] : null;
        switch (below(9)) {
            case 0 -> due("value", suite.value(c, r), there ? shown(held) : CollectorSuite.BAD);
            case 1 -> due("look(" + c + ", " + r + ", " + f + ")", suite.look(c, r, f),
                    there && in(f, 3) && held instanceof Object[] o ? shown(o[f]) : CollectorSuite.BAD);
            case 2 -> due("same(" + c + ", " + r + ", " + s + ")", suite.same(c, r, s),
                    there && in(s, 6) && held instanceof Object[] && held == register[s]);
            case 3 -> due("count(" + c + ")", suite.count(c), in(c, 7) ? objects() : CollectorSuite.BAD);
            case 4 -> due("reach(" + c + ", " + r + ")", suite.reach(c, r),
                    there ? cameTo(r, r + 1).size() : CollectorSuite.BAD);
            case 5 -> due("sum(" + c + ")", suite.sum(c), in(c, 7) ? total() : CollectorSuite.BAD);
            case 6 -> due("collect(" + c + ")", suite.collect(c), in(c, 7) ? objects() : CollectorSuite.BAD);
            case 7 -> {
                int other = near(7);
                due("agree(" + c + ", " + other + ")", suite.agree(c, other), in(c, 7) && in(other, 7));
            }
            default -> due("sound()", suite.sound(), true);
        }
    }

    private int total() {
        int total = 0;
        for (Object object : cameTo(0, 6)) {
            for (Object held : (Object[]) object) {
                total += held instanceof Integer number ? number : 0;
            }
        }
        return total;
    }

    private void lastLook(int c) {
        compare(c);
        due("last collect(" + c + ")", suite.collect(c), objects());
        compare(c);
        due("last sound()", suite.sound(), true);
    }

    private void compare(int c) {
        due("last count(" + c + ")", suite.count(c), objects());
        due("last sum(" + c + ")", suite.sum(c), total());
        for (int r = 0; r < 6; r++) {
            due("last value(" + c + ", " + r + ")", suite.value(c, r), shown(register[r]));
            due("last reach(" + c + ", " + r + ")", suite.reach(c, r), cameTo(r, r + 1).size());
            for (int f = 0; f < 3; f++) {
                due("last look(" + c + ", " + r + ", " + f + ")", suite.look(c, r, f),
                        register[r] instanceof Object[] o ? shown(o[f]) : CollectorSuite.BAD);
            }
            for (int s = 0; s < 6; s++) {
                due("last same(" + c + ", " + r + ", " + s + ")", suite.same(c, r, s),
                        register[r] instanceof Object[] && register[r] == register[s]);
            }
        }
        for (int d = 0; d < 7; d++) {
            due("last agree(" + c + ", " + d + ")", suite.agree(c, d), true);
        }
    }
}
