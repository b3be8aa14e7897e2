import java.util.List;

/** Promises 1 to 4 and 8: a new object, elements, maps, marked parts and the element that each is in. */
public final class TreeTest {
    private static final Checks checks = new Checks("TreeTest");

    public static void main(String[] args) {
        newObject();
        elements();
        wrongElements();
        maps();
        longMaps();
        wrongMaps();
        parts();
        wrongParts();
        repeats();
        fullOfParts();
        parents();
        checks.end();
    }

    private static void newObject() {
        StructureRows x = new StructureRows();
        checks.badIndex("no fault before a check", () -> x.fault(0, 0));
        checks.due("walk of a new object", 0, x::walk);
        checks.due("outline of a new object", 0, () -> x.outline(-1, 0));
        checks.due("untagged of a new object", 0, () -> x.untagged(-1));
        checks.due("faults of a new object", 0, x::check);
        checks.due("parent in a new object", -1, () -> x.parent(0, 0));
        checks.noElement("there is no element 1", () -> x.words(1, true));
        checks.due("the document has no level", 0, () -> x.heading(0, 1));
        checks.due("the document has no words", 0, () -> x.words(0, true));
        checks.due("the document spans 1, 1", 11, () -> x.span(0, 1, 1));
    }

    private static void elements() {
        StructureRows x = new StructureRows();
        int number = 1;
        for (int role = 1; role <= 12; role++) {
            int of = role;
            checks.due("element of role " + role, number++, () -> x.element(0, of));
        }
        for (int role = 100; role <= 119; role++) {
            int of = role;
            checks.due("element of role " + role, number++, () -> x.element(of - 100, of));
        }
        while (number < 60) {
            int in = number - 1;
            checks.due("element in " + in, number++, () -> x.element(in, 3));
        }
        checks.full("a 61st element", () -> x.element(0, 3));
        checks.full("a 61st element, again", () -> x.element(59, 119));
        checks.badArgument("a 61st element without a role", () -> x.element(0, 13));
        checks.noElement("a 61st element in none", () -> x.element(60, 13));
        checks.due("element 59 is there", 0, () -> x.words(59, true));
        checks.noElement("element 60 is not", () -> x.words(60, true));
    }

    private static void wrongElements() {
        for (int parent : new int[] {-1, 3, 60, Integer.MIN_VALUE, Integer.MAX_VALUE}) {
            checks.refused("element in " + parent, "NoSuchElementException", TreeTest::small,
                    x -> x.element(parent, 3));
            checks.refused("element in " + parent + ", no role", "NoSuchElementException", TreeTest::small,
                    x -> x.element(parent, 0));
        }
        for (int role : new int[] {0, -1, 13, 99, 120, Integer.MIN_VALUE, Integer.MAX_VALUE}) {
            checks.refused("element of role " + role, "IllegalArgumentException", TreeTest::small,
                    x -> x.element(0, role));
        }
        checks.refused("a 61st element", "UnsupportedOperationException", TreeTest::chain, x -> x.element(0, 3));
    }

    private static void small(StructureRows x) {
        x.element(0, 2);
        x.element(1, 100);
        x.content(2, 3, 4);
        x.content(0, 1, 1);
        x.content(1, 1, 1);
        x.shows(1, 2);
        x.heading(1, 2);
    }

    private static void chain(StructureRows x) {
        for (int i = 0; i < 59; i++) {
            x.element(i, 3);
        }
        x.content(59, 0, 0);
    }

    private static void maps() {
        StructureRows x = new StructureRows();
        x.element(0, 100);
        x.content(1, 0, 0);
        checks.faults("an own role without a map", x, "1:1:0");
        checks.due("to an own role", 1, () -> x.map(100, 101));
        checks.faults("a way that ends at an own role", x, "1:1:0");
        checks.due("a way that ends at a standard one", 1, () -> x.map(101, 2));
        checks.faults("a heading by two maps", x, "2:1:0");
        checks.due("back", 0, () -> x.map(101, 100));
        checks.faults("still a heading", x, "2:1:0");
        checks.due("to itself", 0, () -> x.map(100, 100));
        checks.faults("a heading even then", x, "2:1:0");
        checks.due("to itself, unmapped", 0, () -> x.map(119, 119));
        checks.due("again, elsewhere", 1, () -> x.map(101, 10));
        checks.faults("a figure", x, "6:1:0");
        checks.due("again, to the same", 1, () -> x.map(101, 10));
        checks.due("away", 1, () -> x.map(100, 3));
        checks.faults("a paragraph", x);
        checks.due("what led back does so no more", 1, () -> x.map(101, 100));
        checks.due("now this leads back", 0, () -> x.map(100, 101));
        checks.due("to the document", 1, () -> x.map(100, 0));
        checks.faults("a document with a kid", x);
        for (int role = 0; role <= 12; role++) {
            int to = role;
            checks.due("to standard role " + role, 1, () -> x.map(119, to));
        }
    }

    private static void longMaps() {
        StructureRows x = new StructureRows();
        x.element(0, 100);
        x.content(1, 0, 0);
        for (int role = 100; role < 119; role++) {
            int of = role;
            checks.due("map " + role, 1, () -> x.map(of, of + 1));
        }
        checks.faults("all own roles, and no standard", x, "1:1:0");
        for (int role = 100; role <= 119; role++) {
            int to = role;
            checks.due("all own roles, and back to " + role, 0, () -> x.map(119, to));
        }
        checks.due("all own roles, then a figure", 1, () -> x.map(119, 10));
        checks.faults("a figure by twenty maps", x, "6:1:0");
        checks.due("a figure still, by nineteen", 0, () -> x.map(119, 100));
        checks.faults("a figure still", x, "6:1:0");
    }

    private static void wrongMaps() {
        for (int role : new int[] {0, 3, 12, 13, 99, 120, -1, Integer.MIN_VALUE, Integer.MAX_VALUE}) {
            checks.refused("map of " + role, "IllegalArgumentException", TreeTest::small, x -> x.map(role, 2));
        }
        for (int to : new int[] {-1, 13, 99, 120, Integer.MIN_VALUE, Integer.MAX_VALUE}) {
            checks.refused("map to " + to, "IllegalArgumentException", TreeTest::small, x -> x.map(100, to));
        }
    }

    private static void parts() {
        StructureRows x = new StructureRows();
        x.element(0, 3);
        checks.due("a part of the document", 1, () -> x.content(0, 0, 0));
        checks.due("a part of an element", 1, () -> x.content(1, 9, 19));
        checks.due("the same mark of another page", 1, () -> x.content(1, 8, 19));
        checks.same("in the walk", Checks.walked(x), List.of("9/19 in 1", "8/19 in 1", "0/0 in 0"));
        checks.due("once more", 0, () -> x.content(0, 9, 19));
        checks.due("it stays where it is", 1, () -> x.parent(9, 19));
        checks.same("the walk stays", Checks.walked(x), List.of("9/19 in 1", "8/19 in 1", "0/0 in 0"));
    }

    private static void wrongParts() {
        for (int element : new int[] {-1, 3, 60, Integer.MAX_VALUE, Integer.MIN_VALUE}) {
            checks.refused("a part of " + element, "NoSuchElementException", TreeTest::small,
                    x -> x.content(element, 0, 0));
            checks.refused("no part of " + element, "NoSuchElementException", TreeTest::small,
                    x -> x.content(element, 10, 0));
            checks.refused("a known part of " + element, "NoSuchElementException", TreeTest::small,
                    x -> x.content(element, 1, 1));
        }
        for (int[] bad : new int[][] {{10, 0}, {-1, 0}, {0, 20}, {0, -1}, {Integer.MAX_VALUE, 1},
                {1, Integer.MIN_VALUE}, {-1, 21}, {10, -1}, {1 << 30, 4}}) {
            checks.refused("part " + bad[0] + "/" + bad[1], "IllegalArgumentException", TreeTest::small,
                    x -> x.content(1, bad[0], bad[1]));
            checks.refused("parent " + bad[0] + "/" + bad[1], "IllegalArgumentException", TreeTest::small,
                    x -> x.parent(bad[0], bad[1]));
        }
    }

    private static void repeats() {
        StructureRows x = new StructureRows();
        x.element(0, 3);
        x.content(1, 2, 3);
        x.content(1, 2, 4);
        String[] want = new String[40];
        for (int i = 0; i < 40; i++) {
            int element = i % 3 == 0 ? 0 : 1;
            int mark = 3 + i % 2;
            checks.due("repeat " + i, 0, () -> x.content(element, 2, mark));
            want[i] = "8:" + element + ":" + (40 + mark);
        }
        checks.faults("forty repeats", x, want);
        checks.due("repeat 40", 0, () -> x.content(0, 2, 4));
        checks.due("repeat 41", 0, () -> x.content(0, 2, 3));
        checks.faults("the first forty are kept", x, want);
    }

    private static void fullOfParts() {
        StructureRows x = new StructureRows();
        x.element(0, 3);
        for (int i = 0; i < 100; i++) {
            int code = 199 - i;
            checks.due("part " + i, 1, () -> x.content(code % 2, code / 20, code % 20));
        }
        checks.full("a 101st part", () -> x.content(0, 0, 0));
        checks.due("it is in none", -1, () -> x.parent(0, 0));
        checks.due("a repeat comes first", 0, () -> x.content(0, 9, 19));
        checks.badArgument("a part that is none comes first", () -> x.content(0, 0, 20));
        checks.noElement("an element that is none comes first", () -> x.content(2, 0, 20));
        checks.due("all are walked", 100, x::walk);
        checks.faults("one repeat is told", x, "8:0:199");
        checks.refused("a 101st part", "UnsupportedOperationException", TreeTest::hundredParts,
                y -> y.content(0, 0, 0));
    }

    private static void hundredParts(StructureRows x) {
        for (int code = 100; code < 200; code++) {
            x.content(0, code / 20, code % 20);
        }
    }

    private static void parents() {
        StructureRows x = new StructureRows();
        small(x);
        checks.due("in the document", 0, () -> x.parent(1, 1));
        checks.due("in an element", 2, () -> x.parent(3, 4));
        checks.due("shown, and in none", -1, () -> x.parent(1, 2));
        checks.due("in none", -1, () -> x.parent(9, 19));
        x.element(0, 12);
        x.content(3, 9, 19);
        checks.due("in an artefact", 3, () -> x.parent(9, 19));
    }
}
