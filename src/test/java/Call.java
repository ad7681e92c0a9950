import java.util.List;
import java.util.function.Predicate;
import java.util.function.ToIntFunction;

/** One call of the class, with the text that tells it; true is answered as 1 and false as 0. */
record Call(String text, ToIntFunction<CollectorSuite> run) {
    static final int TRUE = 1;
    static final int FALSE = 0;

    int on(CollectorSuite x) {
        return run.applyAsInt(x);
    }

    static int[] answers(CollectorSuite x, List<Call> calls) {
        int[] answers = new int[calls.size()];
        for (int at = 0; at < answers.length; at++) {
            answers[at] = calls.get(at).on(x);
        }
        return answers;
    }

    static Call make(int r) {
        return new Call("make(" + r + ")", x -> x.make(r));
    }

    static Call number(int r, int v) {
        return truth("number(" + r + ", " + v + ")", x -> x.number(r, v));
    }

    static Call copy(int r, int s) {
        return truth("copy(" + r + ", " + s + ")", x -> x.copy(r, s));
    }

    static Call get(int r, int s, int f) {
        return truth("get(" + r + ", " + s + ", " + f + ")", x -> x.get(r, s, f));
    }

    static Call put(int r, int f, int s) {
        return truth("put(" + r + ", " + f + ", " + s + ")", x -> x.put(r, f, s));
    }

    static Call value(int c, int r) {
        return new Call("value(" + c + ", " + r + ")", x -> x.value(c, r));
    }

    static Call look(int c, int r, int f) {
        return new Call("look(" + c + ", " + r + ", " + f + ")", x -> x.look(c, r, f));
    }

    static Call same(int c, int r, int s) {
        return truth("same(" + c + ", " + r + ", " + s + ")", x -> x.same(c, r, s));
    }

    static Call count(int c) {
        return new Call("count(" + c + ")", x -> x.count(c));
    }

    static Call reach(int c, int r) {
        return new Call("reach(" + c + ", " + r + ")", x -> x.reach(c, r));
    }

    static Call sum(int c) {
        return new Call("sum(" + c + ")", x -> x.sum(c));
    }

    static Call collect(int c) {
        return new Call("collect(" + c + ")", x -> x.collect(c));
    }

    static Call agree(int c, int d) {
        return truth("agree(" + c + ", " + d + ")", x -> x.agree(c, d));
    }

    static Call sound() {
        return truth("sound()", CollectorSuite::sound);
    }

    private static Call truth(String text, Predicate<CollectorSuite> run) {
        return new Call(text, x -> run.test(x) ? TRUE : FALSE);
    }
}
