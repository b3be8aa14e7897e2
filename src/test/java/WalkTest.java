import java.util.List;

/** Promises 5, 6, 7 and 15: what pages show, the walk and its parts, and marks in no element. */
public final class WalkTest {
    private static final Checks checks = new Checks("WalkTest");

    public static void main(String[] args) {
        shown();
        wrongShown();
        order();
        artefacts();
        deep();
        wrongParts();
        live();
        untagged();
        allUntagged();
        checks.end();
    }

    private static void shown() {
        StructureRows x = new StructureRows();
        checks.due("the first of page 0", 1, () -> x.shows(0, 19));
        checks.due("the second of page 0", 2, () -> x.shows(0, 0));
        checks.due("the first of page 9", 1, () -> x.shows(9, 19));
        checks.due("again", 0, () -> x.shows(0, 19));
        checks.due("again", 0, () -> x.shows(0, 0));
        checks.due("the third of page 0", 3, () -> x.shows(0, 5));
        StructureRows y = new StructureRows();
        for (int i = 0; i < 20; i++) {
            int mark = 19 - i;
            checks.due("mark " + mark, i + 1, () -> y.shows(4, mark));
        }
        for (int mark = 0; mark < 20; mark++) {
            int again = mark;
            checks.due("mark " + mark + " again", 0, () -> y.shows(4, again));
        }
    }

    private static void wrongShown() {
        for (int[] bad : new int[][] {{10, 0}, {-1, 0}, {0, 20}, {0, -1}, {-1, 20}, {Integer.MAX_VALUE, 0},
                {0, Integer.MIN_VALUE}}) {
            checks.refused("shows " + bad[0] + "/" + bad[1], "IllegalArgumentException", WalkTest::mixed,
                    x -> x.shows(bad[0], bad[1]));
        }
    }

    private static void mixed(StructureRows x) {
        x.content(0, 0, 0);
        x.element(0, 1);
        x.element(1, 3);
        x.content(2, 0, 1);
        x.content(1, 0, 2);
        x.content(0, 0, 3);
        x.content(2, 0, 4);
        x.element(1, 3);
        x.content(3, 1, 0);
        x.shows(0, 4);
        x.shows(0, 7);
    }

    private static void order() {
        StructureRows x = new StructureRows();
        mixed(x);
        checks.due("parts of the walk", 6, x::walk);
        checks.same("kids in order, an element's own in its place", Checks.walked(x),
                List.of("0/0 in 0", "0/1 in 2", "0/4 in 2", "0/2 in 1", "1/0 in 3", "0/3 in 0"));
        checks.due("walked again", 6, x::walk);
    }

    private static void artefacts() {
        StructureRows x = new StructureRows();
        x.element(0, 12);
        x.element(1, 3);
        x.content(2, 0, 0);
        x.content(1, 0, 1);
        x.element(0, 100);
        x.content(3, 0, 2);
        x.content(0, 0, 3);
        checks.same("an own role without a standard is walked", Checks.walked(x), List.of("0/2 in 3", "0/3 in 0"));
        x.map(100, 101);
        x.map(101, 12);
        checks.same("an artefact by maps is not", Checks.walked(x), List.of("0/3 in 0"));
        checks.due("its count", 1, x::walk);
        x.map(100, 3);
        checks.due("a paragraph by maps is", 2, x::walk);
        checks.due("parts in artefacts are in elements", 2, () -> x.parent(0, 0));
        StructureRows y = new StructureRows();
        y.element(0, 1);
        y.content(1, 0, 0);
        y.element(1, 12);
        y.content(2, 0, 1);
        y.content(1, 0, 2);
        y.element(0, 12);
        y.content(3, 0, 3);
        checks.same("artefacts between and at the end", Checks.walked(y), List.of("0/0 in 1", "0/2 in 1"));
    }

    private static void deep() {
        StructureRows x = new StructureRows();
        for (int i = 0; i < 59; i++) {
            x.element(i, 1);
        }
        for (int i = 0; i < 60; i++) {
            x.content(i, i / 20, i % 20);
        }
        checks.due("sixty deep", 60, x::walk);
        checks.due("the deepest comes first", 59, () -> x.at(0, 2));
        checks.due("the document's own last", 0, () -> x.at(59, 2));
        checks.due("between", 20, () -> x.at(39, 2));
        checks.due("its page", 1, () -> x.at(39, 0));
        checks.due("its mark", 0, () -> x.at(39, 1));
    }

    private static void wrongParts() {
        int[] whats = {0, 1, 2};
        for (int i : new int[] {-1, 6, 7, 100, Integer.MIN_VALUE, Integer.MAX_VALUE}) {
            for (int what : whats) {
                checks.refused("at " + i, "IndexOutOfBoundsException", WalkTest::mixed, x -> x.at(i, what));
            }
        }
        for (int what : new int[] {-1, 3, Integer.MIN_VALUE, Integer.MAX_VALUE}) {
            checks.refused("at 0, " + what, "IndexOutOfBoundsException", WalkTest::mixed, x -> x.at(0, what));
        }
    }

    private static void live() {
        StructureRows x = new StructureRows();
        x.element(0, 3);
        x.content(0, 0, 0);
        checks.due("at without a walk before it", 0, () -> x.at(0, 2));
        x.walk();
        x.content(1, 5, 6);
        checks.due("at follows what came since", 1, () -> x.at(0, 2));
        checks.due("its page", 5, () -> x.at(0, 0));
        checks.due("its mark", 6, () -> x.at(0, 1));
    }

    private static void untagged() {
        StructureRows x = new StructureRows();
        x.shows(3, 7);
        x.shows(1, 9);
        x.shows(3, 2);
        x.shows(1, 4);
        x.shows(1, 19);
        x.shows(0, 0);
        x.content(0, 1, 4);
        x.element(0, 12);
        x.content(1, 3, 7);
        checks.due("their count", 4, () -> x.untagged(-1));
        checks.same("by pages, as shown", Checks.loose(x), List.of("0", "29", "39", "62"));
        for (int i : new int[] {-2, 4, 5, Integer.MIN_VALUE, Integer.MAX_VALUE}) {
            checks.badIndex("untagged " + i, () -> x.untagged(i));
        }
        x.content(0, 1, 9);
        checks.same("less what is in an element now", Checks.loose(x), List.of("0", "39", "62"));
        checks.refused("untagged 2", "IndexOutOfBoundsException", WalkTest::mixed, y -> y.untagged(2));
    }

    private static void allUntagged() {
        StructureRows x = new StructureRows();
        for (int code = 199; code >= 0; code--) {
            x.shows(code / 20, code % 20);
        }
        checks.due("all marks", 200, () -> x.untagged(-1));
        checks.due("the first", 19, () -> x.untagged(0));
        checks.due("the last", 180, () -> x.untagged(199));
        checks.badIndex("none behind it", () -> x.untagged(200));
        checks.due("each a fault", 200, x::check);
        checks.due("the last one's kind", 9, () -> x.fault(199, 0));
        checks.due("the last one's element", -1, () -> x.fault(199, 1));
        checks.due("the last one's number", 180, () -> x.fault(199, 2));
    }
}
