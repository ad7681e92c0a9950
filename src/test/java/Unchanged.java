import java.util.ArrayList;
import java.util.List;

/**
 * Calls that may change nothing, the refused ones above all: each must answer as is due, and all
 * that later calls show must be the same before it and after it.
 */
final class Unchanged {
    private static final int CALLS = 512;
    private static final int TIMES = 60;

    private final Checks checks;
    private final List<Scene> scenes = Scene.all();
    private final List<List<Call>> pictures = new ArrayList<>();
    private final List<List<Call>> later = Later.all();
    /** By scene and run of later calls: what is answered without the call in between. */
    private final List<List<int[]>> due = new ArrayList<>();

    Unchanged(Checks checks) {
        this.checks = checks;
        for (int c = 0; c < 7; c++) {
            pictures.add(Later.picture(c));
        }
        for (Scene scene : scenes) {
            List<int[]> answers = new ArrayList<>();
            for (List<Call> calls : later) {
                answers.add(Call.answers(scene.play(), calls));
            }
            due.add(answers);
        }
    }

    /** The call is to be answered so in every scene. */
    void everywhere(Call call, int answer) {
        for (int at = 0; at < scenes.size(); at++) {
            inScene(at, call, answer);
        }
    }

    /** The call is to be answered so in the scenes where register r refers to no object. */
    void whereNoObject(int r, Call call, int answer) {
        for (int at = 0; at < scenes.size(); at++) {
            if (!scenes.get(at).refers(r)) {
                inScene(at, call, answer);
            }
        }
    }

    /** The call is to be answered so in the scenes where this many objects can be come to. */
    void whereObjects(int objects, Call call, int answer) {
        for (int at = 0; at < scenes.size(); at++) {
            if (scenes.get(at).objects == objects) {
                inScene(at, call, answer);
            }
        }
    }

    /** The call only asks: made again and again, it is answered as at first. */
    void asked(Call call) {
        for (int at = 0; at < scenes.size(); at++) {
            inScene(at, call, call.on(scenes.get(at).play()));
        }
    }

    private void inScene(int at, Call call, int answer) {
        Scene scene = scenes.get(at);
        String text = "in " + scene.name + ": " + call.text();
        for (List<Call> picture : pictures) {
            beforeAndAfter(scene, call, answer, picture, text);
        }
        for (int run = 0; run < later.size(); run++) {
            // Once is not enough to see what is lost little by little.
            int times = run % 2 == 0 ? 1 : TIMES;
            afterwards(scene, call, answer, times, later.get(run), due.get(at).get(run), text);
        }
    }

    private void beforeAndAfter(Scene scene, Call call, int answer, List<Call> picture, String text) {
        within(scene.calls.size() + picture.size() + 1 + picture.size());
        CollectorSuite x = scene.play();
        int[] before = Call.answers(x, picture);
        checks.due(text, call.on(x), answer);
        compare(picture, Call.answers(x, picture), before, text);
    }

    private void afterwards(Scene scene, Call call, int answer, int times, List<Call> calls,
            int[] want, String text) {
        within(scene.calls.size() + times + calls.size());
        CollectorSuite x = scene.play();
        for (int time = 0; time < times; time++) {
            checks.due(text, call.on(x), answer);
        }
        compare(calls, Call.answers(x, calls), want, text);
    }

    private void compare(List<Call> calls, int[] got, int[] want, String text) {
        for (int at = 0; at < want.length; at++) {
            if (got[at] != want[at]) {
                checks.due(text + " changed something: later " + calls.get(at).text(), got[at], want[at]);
                return;
            }
        }
        checks.due(text + " changes nothing", true, true);
    }

    private void within(int calls) {
        if (calls > CALLS) {
            checks.fault("a run of " + calls + " calls is longer than is promised for");
        }
    }
}
