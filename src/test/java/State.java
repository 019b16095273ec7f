import java.util.ArrayList;
import java.util.List;

/** All that can be asked of an object, to see that a call changed nothing; status() is left to Checks. */
final class State {
    private final List<String> names = new ArrayList<>();
    private final List<Long> answers = new ArrayList<>();

    private State() {
    }

    /** The object is used up by this: its images are restored and its tape is read. */
    static State usingUp(FlickedCrates x) {
        State state = new State();
        state.told(x);
        state.lying("", x);
        int images = x.count(0);
        for (int i = 1; i <= images; i++) {
            state.note("restore", x.restore());
            state.lying("image " + i + " ", x);
        }
        int bytes = x.count(1);
        state.note("shop of the tape", x.shop(bytes));
        state.note("its fault", x.fault());
        state.told(x);
        state.lying("shop of the tape: ", x);
        return state;
    }

    private void note(String name, long answer) {
        names.add(name);
        answers.add(answer);
    }

    private void told(FlickedCrates x) {
        note("fault", x.fault());
        note("images", x.count(0));
        note("tape", x.count(1));
        for (int what = 0; what < 8; what++) {
            note("told " + what, x.told(what));
        }
        for (int f = 1; f <= 8; f++) {
            note("missed " + f, x.missed(f));
        }
        for (int c = 0; c < x.told(0); c++) {
            note("letter of crate " + c, x.crate(c, 0));
        }
        for (int s = 0; s < x.told(1); s++) {
            for (int what = 0; what < 4; what++) {
                note("sleeve " + s + ", " + what, x.sleeve(s, what));
            }
        }
        for (int k = 0; k < x.told(2); k++) {
            for (int what = 0; what < 6; what++) {
                note("looker " + k + ", " + what, x.looker(k, what));
            }
        }
    }

    private void lying(String when, FlickedCrates x) {
        note(when + "sold", x.count(2));
        for (int c = 0; c < x.told(0); c++) {
            note(when + "divider " + c, x.divider(c));
            for (int i = 0; i <= x.crate(c, 1); i++) {
                note(when + "row " + c + ", " + i, x.row(c, i));
            }
        }
        for (int s = 0; s < x.told(1); s++) {
            note(when + "disc " + s, x.sleeve(s, 5));
        }
    }

    void due(String what, State want) {
        Checks.due(what + ": how much can be asked", answers.size(), want.answers.size());
        for (int i = 0; i < Math.min(answers.size(), want.answers.size()); i++) {
            Checks.due(what + ": " + names.get(i), answers.get(i), want.answers.get(i));
        }
    }
}
