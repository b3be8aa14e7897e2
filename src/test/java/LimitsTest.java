import java.util.ArrayList;
import java.util.Collections;
import java.util.List;

/**
 * The document's limits, each with the step below it, the limit itself and the step beyond it, and the empty and the
 * full of each list. The sentence that a test holds the class to stands above it.
 */
public final class LimitsTest {
    private static final Checks checks = new Checks("LimitsTest");
    private static final int LEAST = Integer.MIN_VALUE;
    private static final int MOST = Integer.MAX_VALUE;
    private static final String IAE = "throws.IllegalArgumentException";
    private static final String NSE = "throws.NoSuchElementException";
    private static final String IOB = "throws.IndexOutOfBoundsException";
    private static final int[] FAR = {LEAST, LEAST + 1, -1000000, 1000000, MOST - 1, MOST};

    public static void main(String[] args) {
        theDocumentAlone();
        newElementsHaveNothing();
        sixtyElements();
        parentsThatAreThere();
        rolesOfElements();
        rolesOfMaps();
        pagesAndMarks();
        hundredParts();
        partsThatDoNotCount();
        fortyRepeats();
        repeatsAtHundredParts();
        twentyMarksOfAPage();
        levels();
        spans();
        walksOfAllLengths();
        fullestWalks();
        outlinesOfAllLengths();
        untaggedOfAllLengths();
        faultsOfAllLengths();
        mostFaults();
        checks.end();
    }

    private static boolean within(int value, int low, int high) {
        return value >= low && value <= high;
    }

    /** The numbers of a row, and ones far beyond it. */
    private static List<Integer> numbers(int low, int high) {
        List<Integer> all = new ArrayList<>();
        for (int i = low; i <= high; i++) {
            all.add(i);
        }
        for (int far : FAR) {
            all.add(far);
        }
        return all;
    }

    /** The answer of a call on a new object behind a scene. */
    private static String on(Checks.Scene scene, Checks.Asked call) {
        StructureRows x = new StructureRows();
        scene.play(x);
        return Checks.answer(() -> call.of(x));
    }

    /** "The document alone." */
    private static void theDocumentAlone() {
        checks.same("walk", on(Scenes::empty, StructureRows::walk), "0");
        checks.same("check", on(Scenes::empty, StructureRows::check), "0");
        checks.same("outline", on(Scenes::empty, x -> x.outline(-1, 0)), "0");
        checks.same("untagged", on(Scenes::empty, x -> x.untagged(-1)), "0");
        checks.same("first part", on(Scenes::empty, x -> x.at(0, 0)), IOB);
        checks.same("first fault", on(Scenes::empty, x -> x.fault(0, 0)), IOB);
        checks.same("first heading", on(Scenes::empty, x -> x.outline(0, 0)), IOB);
        checks.same("first untagged mark", on(Scenes::empty, x -> x.untagged(0)), IOB);
        checks.same("element 0 is there", on(Scenes::empty, x -> x.words(0, true)), "0");
        checks.same("element 1 is not", on(Scenes::empty, x -> x.words(1, true)), NSE);
        checks.same("its level", on(Scenes::empty, x -> x.heading(0, 1)), "0");
        checks.same("its span", on(Scenes::empty, x -> x.span(0, 1, 1)), "11");
        checks.same("the first element's number", on(Scenes::empty, x -> x.element(0, 1)), "1");
        for (int code = 0; code < 200; code++) {
            int page = code / 20;
            int mark = code % 20;
            checks.same("parent of " + code, on(Scenes::empty, x -> x.parent(page, mark)), "-1");
            checks.same("content " + code, on(Scenes::empty, x -> x.content(0, page, mark)), "1");
            checks.same("shows " + code, on(Scenes::empty, x -> x.shows(page, mark)), "1");
        }
        for (int role = 100; role < 120; role++) {
            int of = role;
            checks.same("no map of " + role, on(x -> x.element(0, of), x -> x.check() * 10 + x.fault(0, 0)), "21");
            for (int to = 100; to < 120; to++) {
                int other = to;
                checks.same("map " + role + " to " + to, on(Scenes::empty, x -> x.map(of, other)),
                        role == to ? "0" : "1");
            }
        }
    }

    /** "each with ROWS and COLUMNS that it spans (at first 1, 1)"; no level, no words and no kids at first. */
    private static void newElementsHaveNothing() {
        StructureRows x = new StructureRows();
        x.heading(0, 6);
        x.words(0, true);
        x.span(0, 8, 8);
        for (int number = 1; number < 60; number++) {
            int element = x.element(number - 1, 1 + number % 12);
            checks.due("level of " + element, 0, () -> x.heading(element, 6));
            checks.due("words of " + element, 0, () -> x.words(element, true));
            checks.due("span of " + element, 11, () -> x.span(element, 8, 8));
        }
    }

    /** "ELEMENTS 0, 1, .. (60 at most); element 0, the document, is there at first."; "when there are 60". */
    private static void sixtyElements() {
        for (int shape = 0; shape < 4; shape++) {
            StructureRows x = new StructureRows();
            for (int number = 1; number <= 59; number++) {
                int parent = shape == 0 ? 0 : shape == 1 ? number - 1 : shape == 2 ? number / 2 : number == 1 ? 0 : 1;
                int role = shape == 3 ? 12 : shape == 2 ? 100 + number % 20 : 3;
                checks.due("shape " + shape + ", element " + number, number, () -> x.element(parent, role));
            }
            checks.full("shape " + shape + ", the 61st", () -> x.element(0, 3));
            checks.full("shape " + shape + ", the 61st in the last", () -> x.element(59, 3));
            checks.due("shape " + shape + ", the last one takes a part", 1, () -> x.content(59, 9, 19));
            checks.due("shape " + shape + ", which is in it", 59, () -> x.parent(9, 19));
            checks.due("shape " + shape + ", the last one takes a level", 0, () -> x.heading(59, 6));
            checks.due("shape " + shape + ", the last one spans", 11, () -> x.span(59, 8, 8));
            checks.due("shape " + shape + ", maps go on", 1, () -> x.map(119, 118));
            checks.full("shape " + shape + ", still full", () -> x.element(0, 3));
        }
    }

    /** "NoSuchElementException: there is no such element." Of each call that names one, for each number of them. */
    private static void parentsThatAreThere() {
        for (int count : new int[] {1, 2, 30, 58, 59, 60}) {
            Checks.Scene scene = x -> {
                for (int number = 1; number < count; number++) {
                    x.element(0, 3);
                }
            };
            for (int element : numbers(-2, 62)) {
                boolean there = within(element, 0, count - 1);
                String of = count + " elements, " + element + ": ";
                String next = count == 60 ? "throws.UnsupportedOperationException" : Integer.toString(count);
                checks.same(of + "element", on(scene, x -> x.element(element, 3)), there ? next : NSE);
                checks.same(of + "content", on(scene, x -> x.content(element, 0, 0)), there ? "1" : NSE);
                checks.same(of + "heading", on(scene, x -> x.heading(element, 1)), there ? "0" : NSE);
                checks.same(of + "words", on(scene, x -> x.words(element, true)), there ? "0" : NSE);
                checks.same(of + "no words", on(scene, x -> x.words(element, false)), there ? "0" : NSE);
                checks.same(of + "span", on(scene, x -> x.span(element, 1, 1)), there ? "11" : NSE);
            }
        }
    }

    /** "ROLES 0 .. 12 are STANDARD; 100 .. 119 are OWN roles"; "IllegalArgumentException when role is none (or 0)". */
    private static void rolesOfElements() {
        for (int role : numbers(-3, 130)) {
            boolean right = within(role, 1, 12) || within(role, 100, 119);
            checks.same("element(0, " + role + ")", on(Scenes::empty, x -> x.element(0, role)), right ? "1" : IAE);
        }
    }

    /** "IllegalArgumentException when role is not own, or to is none." "0 .. when that would lead back to it." */
    private static void rolesOfMaps() {
        for (int role : numbers(-3, 130)) {
            boolean own = within(role, 100, 119);
            checks.same("map(" + role + ", 0)", on(Scenes::empty, x -> x.map(role, 0)), own ? "1" : IAE);
            checks.same("map(" + role + ", 12)", on(Scenes::empty, x -> x.map(role, 12)), own ? "1" : IAE);
            for (int of : new int[] {100, 110, 119}) {
                String due = role == of ? "0" : own || within(role, 0, 12) ? "1" : IAE;
                checks.same("map(" + of + ", " + role + ")", on(Scenes::empty, x -> x.map(of, role)), due);
            }
        }
    }

    /** "MARKED PARTS (a page 0 .. 9, a mark 0 .. 19 ..)": of the three calls that name one. */
    private static void pagesAndMarks() {
        for (int page : numbers(-2, 11)) {
            for (int mark : numbers(-2, 21)) {
                boolean right = within(page, 0, 9) && within(mark, 0, 19);
                String of = "page " + page + ", mark " + mark + ": ";
                checks.same(of + "content", on(Scenes::empty, x -> x.content(0, page, mark)), right ? "1" : IAE);
                checks.same(of + "shows", on(Scenes::empty, x -> x.shows(page, mark)), right ? "1" : IAE);
                checks.same(of + "parent", on(Scenes::empty, x -> x.parent(page, mark)), right ? "-1" : IAE);
            }
        }
    }

    /** "100 in all elements at most"; "UnsupportedOperationException when there are 100." */
    private static void hundredParts() {
        for (int shape = 0; shape < 3; shape++) {
            StructureRows x = new StructureRows();
            x.element(0, 12);
            x.element(0, 3);
            for (int i = 0; i < 100; i++) {
                int element = shape == 0 ? 0 : shape == 1 ? 1 : i % 3;
                int code = 2 * i;
                checks.due("shape " + shape + ", part " + i, 1, () -> x.content(element, code / 20, code % 20));
                checks.due("shape " + shape + ", in it", element, () -> x.parent(code / 20, code % 20));
            }
            for (int element = 0; element < 3; element++) {
                int of = element;
                checks.full("shape " + shape + ", the 101st in " + of, () -> x.content(of, 9, 19));
            }
            checks.due("shape " + shape + ", it is in none", -1, () -> x.parent(9, 19));
            checks.due("shape " + shape + ", walked", shape == 0 ? 100 : shape == 1 ? 0 : 67, x::walk);
            checks.due("shape " + shape + ", elements go on", 3, () -> x.element(2, 3));
            checks.full("shape " + shape + ", the 101st in a new one", () -> x.content(3, 9, 19));
        }
    }

    /** A part that was told once more, one that was refused, and a mark that is shown, are none of the 100. */
    private static void partsThatDoNotCount() {
        StructureRows x = new StructureRows();
        x.element(0, 3);
        for (int i = 0; i < 99; i++) {
            int code = i;
            checks.due("part " + i, 1, () -> x.content(0, code / 20, code % 20));
            checks.due("again, here or there", 0, () -> x.content(code % 2, code / 20, code % 20));
            checks.noElement("in none", () -> x.content(2, 9, 19));
            checks.badArgument("no mark", () -> x.content(0, 9, 20));
        }
        checks.due("shown", 1, () -> x.shows(9, 18));
        checks.due("99 are walked", 99, x::walk);
        checks.due("the 100th", 1, () -> x.content(1, 9, 19));
        checks.due("100 are walked", 100, x::walk);
        checks.full("the 101st", () -> x.content(0, 9, 18));
    }

    private static String[] repeatsOf(int count) {
        List<String> want = new ArrayList<>(Collections.nCopies(count, "8:0:199"));
        if (count > 0) {
            want.set(count - 1, "8:1:0");
        }
        return want.toArray(new String[0]);
    }

    /** "that is told once more; 40 such are kept": none, one, 39, 40, and more, of which the first 40 are kept. */
    private static void fortyRepeats() {
        for (int count : new int[] {0, 1, 2, 39, 40}) {
            for (int more : new int[] {0, 1, 2, 60}) {
                StructureRows x = new StructureRows();
                x.element(0, 3);
                x.content(1, 9, 19);
                x.content(1, 0, 0);
                for (int i = 1; i < count; i++) {
                    checks.due("repeat " + i, 0, () -> x.content(0, 9, 19));
                }
                if (count > 0) {
                    checks.due("repeat " + count, 0, () -> x.content(1, 0, 0));
                }
                for (int i = 0; count == 40 && i < more; i++) {
                    checks.due("a repeat that is not kept", 0, () -> x.content(1, 9, 19));
                }
                checks.faults(count + " repeats are kept", x, repeatsOf(count));
                checks.due("parts stay", 2, x::walk);
            }
        }
    }

    /** "0 comes ahead of UnsupportedOperationException": of all 100 parts, and behind 40 repeats, too. */
    private static void repeatsAtHundredParts() {
        StructureRows x = new StructureRows();
        for (int code = 0; code < 100; code++) {
            x.content(0, code / 20, code % 20);
        }
        for (int code = 0; code < 200; code++) {
            int page = code / 20;
            int mark = code % 20;
            if (code < 100) {
                checks.due("repeat of part " + code, 0, () -> x.content(0, page, mark));
            } else {
                checks.full("new part " + code, () -> x.content(0, page, mark));
            }
        }
        checks.due("40 are kept", 40, x::check);
        checks.due("the last one", 39, () -> x.fault(39, 2));
        StructureRows y = new StructureRows();
        y.element(0, 3);
        for (int code = 100; code < 200; code++) {
            y.content(1, code / 20, code % 20);
        }
        y.content(0, 9, 19);
        checks.faults("a repeat of the 100th is kept", y, "8:0:199");
    }

    /** "how many it shows then; 0 when it shows it already": the first, the 20th, and again, page by page. */
    private static void twentyMarksOfAPage() {
        StructureRows x = new StructureRows();
        for (int page = 0; page < 10; page++) {
            int of = page;
            for (int i = 0; i < 20; i++) {
                int mark = (7 * i + page) % 20;
                checks.due("page " + page + ", mark " + mark, i + 1, () -> x.shows(of, mark));
            }
            checks.due("page " + page + ", its first again", 0, () -> x.shows(of, of));
            checks.due("page " + page + ", its last again", 0, () -> x.shows(of, (133 + of) % 20));
        }
        checks.due("all of them", 200, () -> x.untagged(-1));
        for (int i = 0; i < 200; i++) {
            int at = i;
            int due = i / 20 * 20 + (7 * (i % 20) + i / 20) % 20;
            checks.due("mark " + i, due, () -> x.untagged(at));
        }
    }

    /** "An element has a level (1 .. 6 ..): what it had; 0 for none." */
    private static void levels() {
        for (int level : numbers(-3, 10)) {
            boolean right = within(level, 1, 6);
            checks.same("heading(0, " + level + ")", on(Scenes::empty, x -> x.heading(0, level)), right ? "0" : IAE);
            checks.same("then heading(0, 2)", on(x -> Checks.answer(() -> x.heading(0, level)), x -> x.heading(0, 2)),
                    Integer.toString(right ? level : 0));
        }
    }

    /** "An element spans rows and columns (1 .. 8 ..): ten times the rows, and the columns, as they were." */
    private static void spans() {
        for (int rows : numbers(-2, 11)) {
            for (int columns : numbers(-2, 11)) {
                boolean right = within(rows, 1, 8) && within(columns, 1, 8);
                String of = "span(0, " + rows + ", " + columns + ")";
                checks.same(of, on(Scenes::empty, x -> x.span(0, rows, columns)), right ? "11" : IAE);
                checks.same("behind " + of,
                        on(x -> Checks.answer(() -> x.span(0, rows, columns)), x -> x.span(0, 1, 1)),
                        Integer.toString(right ? 10 * rows + columns : 11));
            }
        }
    }

    /** One list: the index below it, its first, its last and the one behind; each what of 0, 1, 2 and those beside. */
    private static void ends(String list, int count, Checks.Scene scene, AskedOf call) {
        for (int what : numbers(-1, 3)) {
            for (int i : new int[] {LEAST, -2, -1, 0, count / 2, count - 1, count, count + 1, 1000, MOST}) {
                boolean right = within(i, 0, count - 1) && within(what, 0, 2);
                String got = on(scene, x -> call.of(x, i, what));
                String due = list.equals("outline") && i == -1 ? Integer.toString(count) : IOB;
                checks.same(list + " of " + count + ", " + i + ", " + what, right ? !got.startsWith("throws") : got,
                        right ? true : due);
            }
        }
    }

    private interface AskedOf {
        int of(StructureRows rows, int i, int what);
    }

    /** "How many marked parts the WALK comes to."; "Of part i of the walk: 0 its page, 1 its mark, 2 its element." */
    private static void walksOfAllLengths() {
        for (int count : new int[] {0, 1, 2, 99, 100}) {
            Checks.Scene scene = x -> {
                x.element(0, 3);
                for (int i = 0; i < count; i++) {
                    x.content(i < 50 ? 1 : 0, (199 - i) / 20, (199 - i) % 20);
                }
            };
            checks.same("walk of " + count, on(scene, StructureRows::walk), Integer.toString(count));
            ends("walk", count, scene, StructureRows::at);
            for (int i = 0; i < count; i++) {
                int at = i;
                checks.same("page of " + i, on(scene, x -> x.at(at, 0)), Integer.toString((199 - i) / 20));
                checks.same("mark of " + i, on(scene, x -> x.at(at, 1)), Integer.toString((199 - i) % 20));
                checks.same("element of " + i, on(scene, x -> x.at(at, 2)), i < 50 ? "1" : "0");
            }
        }
    }

    /** 60 elements and 100 parts at once, all of them in the walk: flat, and as deep as can be. */
    private static void fullestWalks() {
        for (int shape = 0; shape < 2; shape++) {
            StructureRows x = new StructureRows();
            for (int number = 1; number < 60; number++) {
                x.element(shape == 0 ? 0 : number - 1, 2);
                x.heading(number, 1);
            }
            for (int i = 0; i < 100; i++) {
                x.content(i % 60, i / 10, i % 10);
            }
            checks.due("all parts", 100, x::walk);
            checks.due("all headings", 59, () -> x.outline(-1, 0));
            checks.due("no fault", 0, x::check);
            for (int i = 0; i < 100; i++) {
                int at = i;
                int flat = i < 78 ? 1 + i / 2 : i < 98 ? i - 38 : 0;
                int deep = i < 20 ? 59 - i : 39 - (i - 20) / 2;
                checks.due("shape " + shape + ", element of " + i, shape == 0 ? flat : deep, () -> x.at(at, 2));
            }
            checks.badIndex("none behind them", () -> x.at(100, 2));
            StructureRows y = new StructureRows();
            for (int number = 1; number < 60; number++) {
                y.element(shape == 0 ? 0 : number - 1, 1);
            }
            for (int i = 0; i < 100; i++) {
                y.content(59, i / 10, i % 10);
            }
            checks.due("the last element's alone", 100, y::walk);
            checks.due("the first of them", 0, () -> 20 * y.at(0, 0) + y.at(0, 1));
            checks.due("the last of them", 189, () -> 20 * y.at(99, 0) + y.at(99, 1));
        }
    }

    /** "Of heading i of THE OUTLINE ..; i = -1 (any what): how many there are." */
    private static void outlinesOfAllLengths() {
        for (int count : new int[] {0, 1, 2, 58, 59}) {
            Checks.Scene scene = x -> {
                for (int number = 1; number < 60; number++) {
                    x.element(0, 2);
                }
                for (int number = 60 - count; number < 60; number++) {
                    x.heading(number, 1 + number % 2);
                }
            };
            for (int what : numbers(-3, 5)) {
                checks.same("outline(-1, " + what + ")", on(scene, x -> x.outline(-1, what)), Integer.toString(count));
            }
            ends("outline", count, scene, StructureRows::outline);
            for (int i = 0; i < count; i++) {
                int at = i;
                int number = 60 - count + i;
                int depth = i == 0 ? 0 : number % 2;
                checks.same("element of " + i, on(scene, x -> x.outline(at, 0)), Integer.toString(number));
                checks.same("depth of " + i, on(scene, x -> x.outline(at, 1)), Integer.toString(depth));
                checks.same("level of " + i, on(scene, x -> x.outline(at, 2)), Integer.toString(1 + number % 2));
            }
        }
    }

    /** "The i-th mark .. that a page shows, in no element ..; i = -1: how many." */
    private static void untaggedOfAllLengths() {
        for (int count : new int[] {0, 1, 2, 100, 199, 200}) {
            Checks.Scene scene = x -> {
                for (int i = 0; i < 200 && (count >= 100 || i < count); i++) {
                    x.shows(i / 20, i % 20);
                }
                for (int i = count; count >= 100 && i < 200; i++) {
                    x.content(0, i / 20, i % 20);
                }
            };
            checks.same("untagged(-1) of " + count, on(scene, x -> x.untagged(-1)), Integer.toString(count));
            for (int i : new int[] {LEAST, -3, -2, 0, count / 2, count - 1, count, count + 1, 200, MOST}) {
                if (i != -1) {
                    checks.same("untagged(" + i + ") of " + count, on(scene, x -> x.untagged(i)),
                            within(i, 0, count - 1) ? Integer.toString(i) : IOB);
                }
            }
        }
    }

    /** "All FAULTS are looked for: how many."; "Of fault i of the latest check: 0 its kind, 1 its element, 2 .." */
    private static void faultsOfAllLengths() {
        for (int count : new int[] {0, 1, 2, 59}) {
            Checks.Scene unchecked = x -> {
                for (int i = 0; i < count; i++) {
                    x.element(0, 10);
                }
            };
            Checks.Scene scene = x -> {
                unchecked.play(x);
                x.check();
            };
            checks.same("check of " + count, on(unchecked, StructureRows::check), Integer.toString(count));
            ends("faults", count, scene, StructureRows::fault);
            ends("faults before a check", 0, unchecked, StructureRows::fault);
            for (int i = 0; i < count; i++) {
                int at = i;
                checks.same("kind of " + i, on(scene, x -> x.fault(at, 0)), "6");
                checks.same("element of " + i, on(scene, x -> x.fault(at, 1)), Integer.toString(i + 1));
                checks.same("number of " + i, on(scene, x -> x.fault(at, 2)), "0");
            }
        }
        Checks.Scene fewer = x -> {
            x.element(0, 10);
            x.element(0, 10);
            x.check();
            x.words(1, true);
            x.words(2, true);
            x.check();
        };
        ends("faults of a later check without any", 0, fewer, StructureRows::fault);
    }

    /** No object has more: a misplaced row, 58 kids of it with three faults each, 40 repeats, all marks but one. */
    private static void mostFaults() {
        Checks.Scene scene = x -> {
            x.element(0, 7);
            for (int i = 2; i < 60; i++) {
                x.element(1, 100);
            }
            for (int i = 0; i < 42; i++) {
                x.content(1, 9, 19);
            }
            for (int code = 0; code < 200; code++) {
                x.shows(code / 20, code % 20);
            }
            x.check();
        };
        checks.same("their count", on(scene, StructureRows::check), "414");
        int i = 0;
        i = sameFaults(scene, i, 58, 1, 2, 1, 0, 0);
        i = sameFaults(scene, i, 59, 4, 1, 1, 0, 0);
        i = sameFaults(scene, i, 58, 7, 2, 1, 0, 0);
        i = sameFaults(scene, i, 40, 8, 1, 0, 199, 0);
        i = sameFaults(scene, i, 199, 9, -1, 0, 0, 1);
        int behind = i;
        checks.same("none behind them", on(scene, x -> x.fault(behind, 0)), IOB);
    }

    /** Faults of a kind one behind the other, whose elements and numbers go up by a step; the index behind them. */
    private static int sameFaults(Checks.Scene scene, int from, int count, int kind, int element, int up, int number,
            int step) {
        for (int k = 0; k < count; k++) {
            int i = from + k;
            checks.same("kind of " + i, on(scene, x -> x.fault(i, 0)), Integer.toString(kind));
            checks.same("element of " + i, on(scene, x -> x.fault(i, 1)), Integer.toString(element + k * up));
            checks.same("number of " + i, on(scene, x -> x.fault(i, 2)), Integer.toString(number + k * step));
        }
        return from + count;
    }
}
