import java.lang.reflect.Field;

/**
 * What no run of calls can show, since it never comes to it: that agree and sound answer false when
 * the inside is not as it must be. The inside is spoilt by hand here.
 */
public final class InsideTest {
    private static final int CELLS = 48;
    private static final int REGISTERS = 6;
    private static final int REFERENCE = 1000;
    private static final Checks CHECKS = new Checks();

    private InsideTest() {
    }

    public static void main(String[] args) throws ReflectiveOperationException {
        for (int c = 0; c < 7; c++) {
            otherNumberInRegister(c);
            otherNumberInField(c);
            numberForObject(c);
            oneObjectForTwo(c);
            lostObject(c);
            wordOutOfRange(c);
            wordOutOfRangeInLostRing(c);
            oneRegisterAsAnother(c);
        }
        otherHalfInUse();
        gapAmongSlidCells();
        wrongTally();
        forgottenOldCell();
        missedByMarking();
        markingEndsByItself();
        CHECKS.end();
    }

    private static Object inside(CollectorSuite x, String name) throws ReflectiveOperationException {
        Field field = CollectorSuite.class.getDeclaredField(name);
        field.setAccessible(true);
        return field.get(x);
    }

    private static int[] ints(CollectorSuite x, String name) throws ReflectiveOperationException {
        return (int[]) inside(x, name);
    }

    private static boolean[] flags(CollectorSuite x, String name) throws ReflectiveOperationException {
        return (boolean[]) inside(x, name);
    }

    private static int cellOf(CollectorSuite x, int c, int r) throws ReflectiveOperationException {
        return ints(x, "register")[c * REGISTERS + r] - REFERENCE;
    }

    /** Registers 0 and 1 refer to two objects that are alike, register 2 to one with both in it. */
    private static CollectorSuite sample() {
        CollectorSuite x = new CollectorSuite();
        x.make(0);
        x.make(1);
        x.make(2);
        x.put(2, 0, 0);
        x.put(2, 1, 1);
        x.number(5, 17);
        x.put(2, 2, 5);
        CHECKS.due("sound at first", x.sound(), true);
        return x;
    }

    private static void disagrees(String what, CollectorSuite x, int c) {
        for (int other = 0; other < 7; other++) {
            CHECKS.due(what + ": agree(" + c + ", " + other + ")", x.agree(c, other), other == c);
            CHECKS.due(what + ": agree(" + other + ", " + c + ")", x.agree(other, c), other == c);
        }
        CHECKS.due(what + ": others agree", x.agree((c + 1) % 7, (c + 2) % 7), true);
        unsound(what + " in " + c, x);
    }

    private static void unsound(String what, CollectorSuite x) {
        CHECKS.due(what + ": sound()", x.sound(), false);
    }

    private static void otherNumberInRegister(int c) throws ReflectiveOperationException {
        for (int r = 0; r < REGISTERS; r++) {
            CollectorSuite x = sample();
            ints(x, "register")[c * REGISTERS + r] = 18;
            disagrees("other number in register " + r, x, c);
        }
    }

    private static void otherNumberInField(int c) throws ReflectiveOperationException {
        for (int r = 0; r < 3; r++) {
            for (int f = 0; f < 3; f++) {
                CollectorSuite x = sample();
                ints(x, "field")[cellOf(x, c, r) * 3 + f] = -17;
                disagrees("other number in field " + f, x, c);
            }
        }
    }

    private static void numberForObject(int c) throws ReflectiveOperationException {
        CollectorSuite x = sample();
        ints(x, "field")[cellOf(x, c, 2) * 3 + 1] = 0;
        disagrees("a number for an object", x, c);
    }

    private static void oneObjectForTwo(int c) throws ReflectiveOperationException {
        CollectorSuite x = sample();
        int[] field = ints(x, "field");
        int at = cellOf(x, c, 2) * 3;
        field[at + 1] = field[at];
        disagrees("one object for two", x, c);
    }

    private static void oneRegisterAsAnother(int c) throws ReflectiveOperationException {
        CollectorSuite x = new CollectorSuite();
        x.make(0);
        x.make(1);
        int[] register = ints(x, "register");
        register[c * REGISTERS + 1] = register[c * REGISTERS];
        disagrees("one object in two registers", x, c);
    }

    private static void lostObject(int c) throws ReflectiveOperationException {
        CollectorSuite x = sample();
        flags(x, "kept")[cellOf(x, c, 1)] = false;
        unsound("an object lost by " + c, x);
    }

    private static void wordOutOfRange(int c) throws ReflectiveOperationException {
        int elsewhere = ((c + 1) % 7) * CELLS;
        int[] wrong = {-1000, REFERENCE + 7 * CELLS, REFERENCE + elsewhere, Integer.MAX_VALUE,
            Integer.MIN_VALUE};
        for (int word : wrong) {
            CollectorSuite x = sample();
            ints(x, "register")[c * REGISTERS + 5] = word;
            unsound("word " + word + " in a register of " + c, x);
            x = sample();
            ints(x, "field")[cellOf(x, c, 2) * 3 + 2] = word;
            unsound("word " + word + " in a field of " + c, x);
        }
    }

    private static void wordOutOfRangeInLostRing(int c) throws ReflectiveOperationException {
        for (int f = 0; f < 3; f++) {
            CollectorSuite x = sample();
            x.make(3);
            x.put(3, (f + 1) % 3, 3);
            int cell = cellOf(x, c, 3);
            x.number(3, 0);
            CHECKS.due("sound with a lost ring", x.sound(), true);
            ints(x, "field")[cell * 3 + f] = 1000 + 7 * CELLS;
            unsound("word out of range in a lost ring of " + c, x);
        }
    }

    private static void otherHalfInUse() throws ReflectiveOperationException {
        CollectorSuite x = sample();
        flags(x, "kept")[CELLS + 30] = true;
        unsound("the other half in use", x);
        x = sample();
        x.collect(1);
        CHECKS.due("sound in the second half", x.sound(), true);
        flags(x, "kept")[CELLS] = true;
        unsound("the first half in use", x);
    }

    private static void gapAmongSlidCells() throws ReflectiveOperationException {
        CollectorSuite x = sample();
        flags(x, "kept")[2 * CELLS + 4] = true;
        unsound("a gap among slid cells", x);
        x = new CollectorSuite();
        flags(x, "kept")[2 * CELLS + 1] = true;
        unsound("a gap before the second slid cell", x);
    }

    private static void wrongTally() throws ReflectiveOperationException {
        CollectorSuite x = sample();
        ints(x, "tally")[cellOf(x, 3, 0)]++;
        unsound("a tally too high", x);
        x = sample();
        ints(x, "tally")[cellOf(x, 3, 2)]--;
        unsound("a tally too low", x);
        x = sample();
        flags(x, "kept")[3 * CELLS + 40] = true;
        unsound("kept with no reference", x);
    }

    private static void forgottenOldCell() throws ReflectiveOperationException {
        for (int f = 0; f < 3; f++) {
            CollectorSuite x = sample();
            x.collect(4);
            x.make(3);
            x.put(2, f, 3);
            CHECKS.due("sound when remembered", x.sound(), true);
            int old = cellOf(x, 4, 2);
            CHECKS.due("remembered", flags(x, "remembered")[old], true);
            flags(x, "remembered")[old] = false;
            unsound("an old cell forgotten", x);
        }
    }

    private static CollectorSuite whileMarking() throws ReflectiveOperationException {
        CollectorSuite x = sample();
        for (int n = 0; n < 60 && !(Boolean) inside(x, "marking"); n++) {
            x.make(3);
        }
        CHECKS.due("marking is under way", (Boolean) inside(x, "marking"), true);
        CHECKS.due("sound while marking", x.sound(), true);
        return x;
    }

    private static void missedByMarking() throws ReflectiveOperationException {
        CollectorSuite x = whileMarking();
        int[] shade = ints(x, "shade");
        for (int r = 0; r < 4; r++) {
            shade[cellOf(x, 5, r)] = 2;
        }
        CHECKS.due("sound when all is black", x.sound(), true);
        for (int r = 0; r < 4; r++) {
            shade[cellOf(x, 5, r)] = 0;
            unsound("object of register " + r + " missed", x);
            shade[cellOf(x, 5, r)] = 2;
        }
        int holder = cellOf(x, 5, 2);
        int inner = cellOf(x, 5, 0);
        x.number(0, 0);
        shade[inner] = 0;
        unsound("a black cell's object missed", x);
        shade[holder] = 1;
        CHECKS.due("sound when a grey cell leads to it", x.sound(), true);
    }

    private static void markingEndsByItself() throws ReflectiveOperationException {
        CollectorSuite x = whileMarking();
        for (int n = 0; n < 5; n++) {
            x.make(3);
            CHECKS.due("sound at each step", x.sound(), true);
        }
        CHECKS.due("marking has ended", (Boolean) inside(x, "marking"), false);
    }
}
