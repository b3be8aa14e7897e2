import java.util.List;

/**
 * "A call that throws changes nothing; where several exceptions that a call names fit, it is the one that it names
 * first." Every way to be refused, of every call, on a new object, on one with some of everything, and on a full one:
 * the exception that is named, and all that can be seen is as it was. Likewise of answers that say "and it is not".
 */
public final class RefusedTest {
    private static final Checks checks = new Checks("RefusedTest");
    private static final int LEAST = Integer.MIN_VALUE;
    private static final int MOST = Integer.MAX_VALUE;
    private static final String NSE = "NoSuchElementException";
    private static final String IAE = "IllegalArgumentException";
    private static final String UOE = "UnsupportedOperationException";
    private static final String IOB = "IndexOutOfBoundsException";
    private static final int[][] NO_MARKS = {{-1, 0}, {10, 0}, {-1, 19}, {10, 19}, {0, -1}, {0, 20}, {9, -1}, {9, 20},
        {LEAST, 0}, {MOST, 0}, {0, LEAST}, {0, MOST}, {-1, -1}, {10, 20}, {-1, 20}, {1, -20}, {214748365, 0}};
    private static final int[] NO_WHATS = {-1, 3, LEAST, MOST};

    private static int scene;
    private static List<String> untouched;
    private static int[] noElements;

    public static void main(String[] args) {
        for (scene = 0; scene < Scenes.ALL.length; scene++) {
            untouched = Seen.of(Scenes.ALL[scene]);
            noElements = new int[] {-1, Scenes.ELEMENTS[scene], 60, LEAST, MOST};
            scenesAreAsTold();
            element();
            map();
            content();
            marks();
            at();
            fault();
            heading();
            words();
            span();
            outline();
            untagged();
            askedOnly();
        }
        fullAlone();
        answersThatChangeNothing();
        checks.end();
    }

    private static void refused(String call, String exception, Checks.Scene made) {
        checks.refused(Scenes.NAMES[scene] + ", " + call, exception, Scenes.ALL[scene], untouched, made);
    }

    private static void kept(String call, int answer, Checks.Asked made) {
        checks.kept(Scenes.NAMES[scene] + ", " + call, Integer.toString(answer), Scenes.ALL[scene], untouched, made);
    }

    // The bounds below are one step beyond these.
    private static void scenesAreAsTold() {
        StructureRows y = new StructureRows();
        Scenes.ALL[scene].play(y);
        int faults = Scenes.FAULTS[scene];
        checks.same("faults of scene " + scene, faults == 0 || y.fault(faults - 1, 0) == 10, true);
        checks.badIndex("none behind them in scene " + scene, () -> y.fault(faults, 0));
        checks.due("walk of scene " + scene, Scenes.WALKED[scene], y::walk);
        checks.due("outline of scene " + scene, Scenes.OUTLINED[scene], () -> y.outline(-1, 0));
        checks.due("untagged of scene " + scene, Scenes.LOOSE[scene], () -> y.untagged(-1));
        checks.due("last element of scene " + scene, 0, () -> y.words(Scenes.ELEMENTS[scene] - 1, true) / 2);
        checks.noElement("none behind it in scene " + scene, () -> y.words(Scenes.ELEMENTS[scene], true));
    }

    private static void element() {
        int last = Scenes.ELEMENTS[scene] - 1;
        for (int parent : noElements) {
            for (int role : new int[] {3, 119, 0, 13}) {
                refused("element(" + parent + ", " + role + ")", NSE, x -> x.element(parent, role));
            }
        }
        for (int role : new int[] {0, -1, 13, 14, 50, 99, 120, 121, LEAST, MOST}) {
            refused("element(0, " + role + ")", IAE, x -> x.element(0, role));
            refused("element(last, " + role + ")", IAE, x -> x.element(last, role));
        }
    }

    private static void map() {
        for (int role : new int[] {0, 1, 12, 13, -1, 99, 120, LEAST, MOST}) {
            for (int to : new int[] {3, 100, 13}) {
                refused("map(" + role + ", " + to + ")", IAE, x -> x.map(role, to));
            }
        }
        for (int to : new int[] {-1, 13, 50, 99, 120, LEAST, MOST}) {
            refused("map(100, " + to + ")", IAE, x -> x.map(100, to));
            refused("map(119, " + to + ")", IAE, x -> x.map(119, to));
        }
    }

    private static void content() {
        int last = Scenes.ELEMENTS[scene] - 1;
        for (int element : noElements) {
            refused("content(" + element + ", 8, 8)", NSE, x -> x.content(element, 8, 8));
            refused("content(" + element + ", known part)", NSE, x -> x.content(element, 9, 19));
            refused("content(" + element + ", 10, 0)", NSE, x -> x.content(element, 10, 0));
            refused("content(" + element + ", 0, 20)", NSE, x -> x.content(element, 0, 20));
        }
        for (int[] no : NO_MARKS) {
            refused("content(0, " + no[0] + ", " + no[1] + ")", IAE, x -> x.content(0, no[0], no[1]));
            refused("content(last, " + no[0] + ", " + no[1] + ")", IAE, x -> x.content(last, no[0], no[1]));
        }
    }

    private static void marks() {
        for (int[] no : NO_MARKS) {
            refused("shows(" + no[0] + ", " + no[1] + ")", IAE, x -> x.shows(no[0], no[1]));
            refused("parent(" + no[0] + ", " + no[1] + ")", IAE, x -> x.parent(no[0], no[1]));
        }
    }

    private static void at() {
        int count = Scenes.WALKED[scene];
        for (int i : new int[] {-1, -2, count, count + 1, 100, LEAST, MOST}) {
            for (int what = -1; what <= 3; what++) {
                int of = what;
                refused("at(" + i + ", " + what + ")", IOB, x -> x.at(i, of));
            }
        }
        for (int what : NO_WHATS) {
            refused("at(0, " + what + ")", IOB, x -> x.at(0, what));
            refused("at(last, " + what + ")", IOB, x -> x.at(count - 1, what));
        }
    }

    private static void fault() {
        int count = Scenes.FAULTS[scene];
        for (int i : new int[] {-1, -2, count, count + 1, 760, LEAST, MOST}) {
            for (int what = -1; what <= 3; what++) {
                int of = what;
                refused("fault(" + i + ", " + what + ")", IOB, x -> x.fault(i, of));
            }
        }
        for (int what : NO_WHATS) {
            refused("fault(0, " + what + ")", IOB, x -> x.fault(0, what));
            refused("fault(last, " + what + ")", IOB, x -> x.fault(count - 1, what));
        }
    }

    private static void heading() {
        int last = Scenes.ELEMENTS[scene] - 1;
        for (int element : noElements) {
            for (int level : new int[] {1, 6, 0, 7}) {
                refused("heading(" + element + ", " + level + ")", NSE, x -> x.heading(element, level));
            }
        }
        for (int level : new int[] {0, 7, -1, LEAST, MOST}) {
            refused("heading(0, " + level + ")", IAE, x -> x.heading(0, level));
            refused("heading(last, " + level + ")", IAE, x -> x.heading(last, level));
        }
    }

    private static void words() {
        for (int element : noElements) {
            refused("words(" + element + ", true)", NSE, x -> x.words(element, true));
            refused("words(" + element + ", false)", NSE, x -> x.words(element, false));
        }
    }

    private static void span() {
        int last = Scenes.ELEMENTS[scene] - 1;
        for (int cell : noElements) {
            for (int size : new int[] {1, 8, 0, 9}) {
                refused("span(" + cell + ", " + size + ", 2)", NSE, x -> x.span(cell, size, 2));
                refused("span(" + cell + ", 2, " + size + ")", NSE, x -> x.span(cell, 2, size));
            }
        }
        for (int size : new int[] {0, 9, -1, LEAST, MOST}) {
            for (int other : new int[] {1, 8, 9}) {
                refused("span(0, " + size + ", " + other + ")", IAE, x -> x.span(0, size, other));
                refused("span(last, " + other + ", " + size + ")", IAE, x -> x.span(last, other, size));
            }
        }
    }

    private static void outline() {
        int count = Scenes.OUTLINED[scene];
        for (int i : new int[] {-2, -3, count, count + 1, 60, LEAST, MOST}) {
            for (int what = -1; what <= 3; what++) {
                int of = what;
                refused("outline(" + i + ", " + what + ")", IOB, x -> x.outline(i, of));
            }
        }
        for (int what : NO_WHATS) {
            refused("outline(0, " + what + ")", IOB, x -> x.outline(0, what));
            kept("outline(-1, " + what + ")", count, x -> x.outline(-1, what));
        }
    }

    private static void untagged() {
        int count = Scenes.LOOSE[scene];
        for (int i : new int[] {-2, -3, count, count + 1, 200, LEAST, MOST}) {
            refused("untagged(" + i + ")", IOB, x -> x.untagged(i));
        }
    }

    private static void askedOnly() {
        kept("walk()", Scenes.WALKED[scene], StructureRows::walk);
        kept("untagged(-1)", Scenes.LOOSE[scene], x -> x.untagged(-1));
        for (int what = 0; what < 3; what++) {
            int of = what;
            kept("outline(-1, " + what + ")", Scenes.OUTLINED[scene], x -> x.outline(-1, of));
        }
    }

    /** Each call that a full object refuses for that alone, and what comes ahead of it. */
    private static void fullAlone() {
        scene = 2;
        untouched = Seen.of(Scenes.ALL[scene]);
        for (int role : new int[] {1, 12, 100, 119}) {
            refused("element(0, " + role + ")", UOE, x -> x.element(0, role));
            refused("element(59, " + role + ")", UOE, x -> x.element(59, role));
        }
        for (int element : new int[] {0, 1, 59}) {
            refused("content(" + element + ", 0, 0)", UOE, x -> x.content(element, 0, 0));
            refused("content(" + element + ", 9, 9)", UOE, x -> x.content(element, 9, 9));
            kept("a 41st repeat of a 100th part", 0, x -> x.content(element, 9, 10));
            kept("a 41st repeat of the first part", 0, x -> x.content(element, 0, 19));
        }
    }

    private static void answersThatChangeNothing() {
        scene = 2;
        untouched = Seen.of(Scenes.ALL[scene]);
        for (int code = 0; code < 200; code += 13) {
            int of = code;
            kept("shows " + code + " again", 0, x -> x.shows(of / 20, of % 20));
        }
        for (int role = 100; role < 120; role++) {
            int to = role;
            kept("map(119, " + role + ")", 0, x -> x.map(119, to));
        }
        scene = 1;
        untouched = Seen.of(Scenes.ALL[scene]);
        kept("map(100, 100)", 0, x -> x.map(100, 100));
        kept("map(101, 100)", 0, x -> x.map(101, 100));
        kept("map(104, 103)", 0, x -> x.map(104, 103));
        kept("map(119, 119)", 0, x -> x.map(119, 119));
        kept("map(100, 101) again", 1, x -> x.map(100, 101));
        kept("shows(0, 3) again", 0, x -> x.shows(0, 3));
        kept("shows(9, 0) again", 0, x -> x.shows(9, 0));
        kept("parent(9, 19)", 14, x -> x.parent(9, 19));
        kept("parent(9, 18)", -1, x -> x.parent(9, 18));
        kept("at(4, 2)", 0, x -> x.at(4, 2));
        kept("fault(21, 2)", 3, x -> x.fault(21, 2));
        kept("outline(2, 0)", 17, x -> x.outline(2, 0));
        kept("untagged(2)", 198, x -> x.untagged(2));
    }
}
