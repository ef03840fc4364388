import java.util.ArrayList;
import java.util.List;

/** All that an object shows by the calls that change nothing, so that one can tell whether another call did. */
final class Shown {
    private final List<String> calls = new ArrayList<>();
    private final List<Long> answers = new ArrayList<>();

    private Shown() {
    }

    /** Some 140 calls for a village as small as CallEdgesTest's. */
    static Shown by(NightHelp x) {
        Shown shown = new Shown();
        for (int what = 0; what < 8; what++) {
            shown.add("count(" + what + ")", x.count(what));
        }
        shown.add("fault()", x.fault());
        shown.add("said()", x.said());
        shown.village(x);
        shown.book(x);
        shown.latest(x);
        return shown;
    }

    private void village(NightHelp x) {
        int persons = x.count(1);
        for (int k = x.count(0) - 1; k >= 0; k--) {
            add("help(" + k + ", 0)", x.help(k, 0));
            add("help(" + k + ", 1)", x.help(k, 1));
        }
        for (int p = 0; p < persons; p++) {
            for (int what = 0; what < 5; what++) {
                add("person(" + p + ", " + what + ")", x.person(p, what));
            }
            add("found(" + p + ")", x.found(p));
            for (int q = 0; q < persons; q++) {
                add("tie(" + p + ", " + q + ", 0)", x.tie(p, q, 0));
                add("tie(" + p + ", " + q + ", 1)", x.tie(p, q, 1));
            }
        }
        for (int n = x.count(2) - 1; n >= 0; n--) {
            add("need(" + n + ", 0)", x.need(n, 0));
            add("need(" + n + ", 1)", x.need(n, 1));
        }
    }

    private void book(NightHelp x) {
        for (int i = x.count(3) - 1; i >= 0; i--) {
            add("wrong(" + i + ")", x.wrong(i));
        }
        for (int what = 0; what < 5; what++) {
            add("judge(" + what + ")", x.judge(what));
        }
        for (int p = x.count(1) - 1; p >= 0; p--) {
            for (int what = 0; what < 5; what++) {
                add("came(" + p + ", " + what + ")", x.came(p, what));
            }
            for (int q = 0; q < 3; q++) {
                add("bound(" + p + ", " + q + ", 0)", x.bound(p, q, 0));
                add("bound(" + p + ", " + q + ", 1)", x.bound(p, q, 1));
            }
        }
    }

    /** What run, left and think told last, of as many as there may be. */
    private void latest(NightHelp x) {
        for (int what = 0; what < 8; what++) {
            add("runBy(" + what + ")", x.runBy(what));
        }
        for (int i = 0; i < 4; i++) {
            add("runOf(" + i + ")", x.runOf(i));
            add("leftBy(" + i + ")", x.leftBy(i));
            add("thinkOf(" + i + ", 0)", x.thinkOf(i, 0));
        }
        add("thinkOf(0, 1)", x.thinkOf(0, 1));
    }

    private void add(String call, long answer) {
        calls.add(call);
        answers.add(answer);
    }

    /** The answers now must be as they were, but for the calls named. */
    void stays(String what, NightHelp x, String... but) {
        Shown now = by(x);
        Due.same(what + ": how much is shown", now.calls.size(), calls.size());
        for (int i = 0; i < Math.min(calls.size(), now.calls.size()); i++) {
            if (!List.of(but).contains(calls.get(i))) {
                Due.same(what + ": then " + now.calls.get(i), now.answers.get(i), answers.get(i));
            }
        }
    }
}
