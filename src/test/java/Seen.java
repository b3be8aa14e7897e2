import java.util.ArrayList;
import java.util.List;

/**
 * All that the face tells of an object behind a scene, as lines of text. An object is promised for 512 calls alone, and
 * some questions change what they ask of: so the scene is played anew, on another object, for each few questions.
 */
final class Seen {
    /** The calls of the longest scene of the tests (Scenes.full), one more, and these, stay within 512. */
    private static final int QUESTIONS = 50;

    private interface Question {
        int ask(StructureRows rows, int i);
    }

    private final Checks.Scene scene;
    private final List<String> lines = new ArrayList<>();

    private Seen(Checks.Scene scene) {
        this.scene = scene;
    }

    static List<String> of(Checks.Scene scene) {
        Seen seen = new Seen(scene);
        seen.lists("latest ");
        seen.setters();
        seen.marks();
        seen.maps();
        seen.room();
        Seen checked = new Seen(x -> {
            scene.play(x);
            x.check();
        });
        checked.lists("next ");
        seen.lines.addAll(checked.lines);
        return seen.lines;
    }

    /** The first line that differs, for a report that can be read. */
    static String difference(List<String> got, List<String> want) {
        for (int i = 0; i < Math.max(got.size(), want.size()); i++) {
            String left = i < got.size() ? got.get(i) : "nothing";
            String right = i < want.size() ? want.get(i) : "nothing";
            if (!left.equals(right)) {
                return left + " and not " + right;
            }
        }
        return "none";
    }

    private StructureRows played() {
        StructureRows rows = new StructureRows();
        scene.play(rows);
        return rows;
    }

    private void ask(String what, int from, int count, Question question) {
        StructureRows rows = played();
        for (int k = 0; k < count; k++) {
            if (k > 0 && k % QUESTIONS == 0) {
                rows = played();
            }
            StructureRows asked = rows;
            int i = from + k;
            lines.add(what + " " + i + ": " + Checks.answer(() -> question.ask(asked, i)));
        }
    }

    /** The same, up to the first question that is refused: the end of a list. */
    private void askAll(String what, Question question) {
        StructureRows rows = played();
        String answer = "";
        for (int i = 0; i < 1000 && !answer.startsWith("throws"); i++) {
            if (i > 0 && i % QUESTIONS == 0) {
                rows = played();
            }
            StructureRows asked = rows;
            int at = i;
            answer = Checks.answer(() -> question.ask(asked, at));
            lines.add(what + " " + i + ": " + answer);
        }
    }

    private void lists(String when) {
        for (int what = 0; what < 3; what++) {
            int of = what;
            askAll(when + "fault, what " + of, (x, i) -> x.fault(i, of));
            askAll(when + "at, what " + of, (x, i) -> x.at(i, of));
            askAll(when + "outline, what " + of, (x, i) -> x.outline(i, of));
        }
        askAll(when + "untagged", StructureRows::untagged);
        ask(when + "counts", 0, 1, (x, i) -> x.walk());
        ask(when + "counts", 1, 1, (x, i) -> x.outline(-1, 0));
        ask(when + "counts", 2, 1, (x, i) -> x.untagged(-1));
        ask(when + "counts", 3, 1, (x, i) -> x.check());
    }

    private void setters() {
        ask("heading", -1, 62, (x, i) -> x.heading(i, 1));
        ask("words", -1, 62, (x, i) -> x.words(i, true));
        ask("span", -1, 62, (x, i) -> x.span(i, 1, 1));
    }

    private void marks() {
        ask("parent", 0, 200, (x, i) -> x.parent(i / 20, i % 20));
        ask("shows", 0, 200, (x, i) -> x.shows(i / 20, i % 20));
    }

    // Whether a way leads from a role to another does not hang on the other's own map: so that may change meanwhile.
    private void maps() {
        for (int role = 100; role < 120; role++) {
            int of = role;
            ask("map of " + role, 100, 20, (x, i) -> x.map(of, i));
            ask("standard of " + role, 0, 1, (x, i) -> kindsOfNew(x, of));
        }
    }

    /** The kinds of the faults that a new list's or figure's or .. kid has, as bits, which tell most standards apart. */
    private static int kindsOfNew(StructureRows x, int role) {
        int element = x.element(0, role);
        int count = x.check();
        int kinds = 0;
        for (int i = 0; i < count; i++) {
            kinds |= x.fault(i, 1) == element ? 1 << x.fault(i, 0) : 0;
        }
        return kinds;
    }

    /** How much more there is room for: elements, marked parts, and repeats. */
    private void room() {
        ask("element", 0, 61, (x, i) -> x.element(0, 3));
        ask("content", 0, 200, (x, i) -> x.content(0, i / 20, i % 20));
        ask("repeats", 0, 1, (x, i) -> {
            for (int k = 0; k < 42; k++) {
                x.content(0, 0, 0);
            }
            return x.check();
        });
    }
}
