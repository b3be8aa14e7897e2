import java.util.List;

/** Promises 9 and 10: each kind of fault, their order, and the latest check. */
public final class FaultsTest {
    private static final Checks checks = new Checks("FaultsTest");

    public static void main(String[] args) {
        noStandard();
        noLevel();
        skippedLevels();
        misplacedPairs();
        misplacedByMaps();
        noWords();
        noKids();
        repeats();
        untagged();
        outOfOrder();
        outOfOrderPages();
        inArtefacts();
        allKindsInOrder();
        mostFaults();
        latestCheck();
        wrongFaults();
        checks.end();
    }

    private static void noStandard() {
        StructureRows x = new StructureRows();
        x.element(0, 119);
        x.element(1, 100);
        x.element(0, 119);
        x.content(2, 0, 0);
        x.content(3, 0, 1);
        checks.faults("roles without a standard, by numbers", x, "1:1:0", "1:2:0", "1:3:0");
        x.heading(1, 5);
        x.words(1, true);
        x.map(119, 3);
        checks.faults("less those that have one", x, "1:2:0");
    }

    private static void noLevel() {
        StructureRows x = new StructureRows();
        x.element(0, 2);
        x.element(1, 2);
        x.element(0, 100);
        x.map(100, 2);
        x.content(2, 0, 0);
        x.content(3, 0, 1);
        checks.faults("headings without a level", x, "2:1:0", "2:2:0", "2:3:0");
        x.heading(1, 1);
        checks.faults("less one that has it", x, "2:2:0", "2:3:0");
        x.heading(3, 3);
        checks.faults("one without a level is passed over", x, "2:2:0", "3:3:3");
        x.heading(3, 2);
        checks.faults("one more is no fault", x, "2:2:0");
    }

    private static void skippedLevels() {
        StructureRows x = new StructureRows();
        x.element(0, 1);
        x.element(0, 2);
        x.element(1, 2);
        x.content(2, 0, 0);
        x.content(3, 0, 1);
        x.heading(3, 1);
        x.heading(2, 2);
        checks.faults("in the walk 1, 2", x);
        x.heading(3, 2);
        checks.faults("the first one at 2", x, "3:3:2");
        x.heading(2, 6);
        checks.faults("both, in the walk's order", x, "3:3:2", "3:2:6");
        x.heading(3, 6);
        checks.faults("an equal level", x, "3:3:6");
        x.heading(2, 1);
        checks.faults("a lesser level", x, "3:3:6");
    }

    // The role's parent that is due is told by hand here, so that the class's own rule is not asked twice.
    private static boolean isFaulty(int role, int parent) {
        if (parent == 4) {
            return role != 5 && role != 12;
        }
        if (parent == 6) {
            return role != 7 && role != 12;
        }
        if (parent == 7) {
            return role != 8 && role != 9 && role != 12;
        }
        return role == 5 || role == 7 || role == 8 || role == 9;
    }

    private static void misplacedPairs() {
        for (int parent = 1; parent <= 13; parent++) {
            for (int role = 1; role <= 13; role++) {
                StructureRows x = new StructureRows();
                x.element(0, parent == 13 ? 100 : parent);
                x.element(1, role == 13 ? 100 : role);
                x.content(2, 0, 0);
                boolean outer = isFaulty(parent, 0);
                boolean inner = isFaulty(role, parent);
                String[] want = outer && inner ? new String[] {"4:1:0", "4:2:0"}
                        : outer ? new String[] {"4:1:0"} : inner ? new String[] {"4:2:0"} : new String[0];
                checks.faultsOf(4, "role " + role + " in " + parent + " (13: none)", x, want);
            }
        }
    }

    private static void misplacedByMaps() {
        StructureRows x = new StructureRows();
        x.element(0, 100);
        x.element(1, 101);
        x.content(2, 0, 0);
        x.map(100, 4);
        checks.faultsOf(4, "a list's kid without a standard", x, "4:2:0");
        x.map(101, 5);
        checks.faultsOf(4, "an item by a map, in a list by a map", x);
        x.map(100, 0);
        checks.faultsOf(4, "an item in a document by a map", x, "4:2:0");
        StructureRows y = new StructureRows();
        y.element(0, 4);
        y.content(1, 0, 0);
        y.element(0, 6);
        y.content(2, 0, 1);
        checks.faults("marked parts as kids are no elements", y);
        y.element(1, 12);
        y.element(3, 5);
        y.content(4, 0, 2);
        checks.faults("an item in a list's artefact", y, "4:4:0");
    }

    private static void noWords() {
        StructureRows x = new StructureRows();
        x.element(0, 10);
        x.element(0, 100);
        x.element(0, 3);
        x.content(3, 0, 0);
        x.content(2, 0, 1);
        x.map(100, 10);
        checks.faults("figures without words", x, "6:1:0", "6:2:0");
        x.words(1, true);
        checks.faults("less one that has them", x, "6:2:0");
        x.words(1, false);
        x.words(2, true);
        checks.faults("and has them no more", x, "6:1:0");
    }

    private static void noKids() {
        StructureRows x = new StructureRows();
        x.element(0, 1);
        x.element(0, 12);
        x.element(0, 10);
        x.words(3, true);
        x.element(0, 100);
        checks.faults("elements without kids", x, "1:4:0", "7:1:0", "7:2:0", "7:4:0");
        x.map(100, 0);
        checks.faults("a document by a map, too", x, "7:1:0", "7:2:0", "7:4:0");
        x.map(100, 10);
        checks.faults("but a figure by a map", x, "6:4:0", "7:1:0", "7:2:0");
        x.words(4, true);
        x.content(1, 0, 0);
        x.element(2, 3);
        checks.faults("a part or an element is a kid", x, "7:5:0");
    }

    private static void repeats() {
        StructureRows x = new StructureRows();
        x.element(0, 3);
        x.content(1, 9, 19);
        x.content(1, 0, 1);
        x.content(0, 9, 19);
        x.content(1, 0, 1);
        x.content(1, 9, 19);
        checks.faults("in the order in which they were told", x, "8:0:199", "8:1:1", "8:1:199");
        checks.faults("kept for the next check", x, "8:0:199", "8:1:1", "8:1:199");
    }

    private static void untagged() {
        StructureRows x = new StructureRows();
        x.shows(9, 19);
        x.shows(0, 2);
        x.shows(0, 1);
        checks.faults("by pages, as they are shown", x, "9:-1:2", "9:-1:1", "9:-1:199");
        x.content(0, 0, 2);
        checks.faults("less what is in an element", x, "9:-1:1", "9:-1:199");
    }

    private static void outOfOrder() {
        StructureRows x = new StructureRows();
        x.element(0, 3);
        for (int mark = 0; mark < 6; mark++) {
            x.content(mark < 3 ? 1 : 0, 0, mark);
        }
        for (int mark : new int[] {2, 0, 1, 5, 3}) {
            x.shows(0, mark);
        }
        // Walked: 0 1 2 3 (4 is not shown) 5, at the places 1 2 0 4 3.
        checks.faults("against the one just before, of those shown", x, "10:1:2", "10:0:5");
    }

    private static void outOfOrderPages() {
        StructureRows x = new StructureRows();
        x.content(0, 0, 1);
        x.content(0, 3, 1);
        x.content(0, 0, 0);
        x.content(0, 3, 0);
        x.content(0, 0, 2);
        checks.faults("nothing shown", x);
        x.shows(0, 0);
        x.shows(0, 1);
        x.shows(3, 0);
        x.shows(3, 1);
        checks.faults("other pages' parts may stand between", x, "10:0:0", "10:0:60");
        x.shows(0, 2);
        checks.faults("a later one in order", x, "10:0:0", "10:0:60");
        checks.faults("each check starts anew", x, "10:0:0", "10:0:60");
    }

    private static void inArtefacts() {
        StructureRows x = new StructureRows();
        x.element(0, 12);
        x.element(1, 100);
        x.element(1, 2);
        x.element(1, 5);
        x.element(1, 10);
        x.element(1, 2);
        x.heading(6, 4);
        x.content(2, 0, 1);
        x.content(2, 0, 0);
        x.shows(0, 0);
        x.shows(0, 1);
        checks.faults("in artefacts, but none of the walk", x,
                "1:2:0", "2:3:0", "4:4:0", "6:5:0", "7:3:0", "7:4:0", "7:6:0");
    }

    private static void all(StructureRows x) {
        x.element(0, 2);
        x.element(0, 6);
        x.element(2, 7);
        x.element(2, 7);
        x.element(3, 9);
        x.element(0, 10);
        x.element(0, 5);
        x.element(0, 110);
        x.element(0, 2);
        x.heading(1, 2);
        x.content(1, 0, 5);
        x.content(8, 0, 4);
        x.content(9, 0, 4);
        x.shows(0, 4);
        x.shows(0, 5);
        x.shows(0, 6);
    }

    private static void allKindsInOrder() {
        StructureRows x = new StructureRows();
        all(x);
        checks.faults("all kinds", x, "1:8:0", "2:9:0", "3:1:2", "4:7:0", "5:2:0", "6:6:0",
                "7:4:0", "7:5:0", "7:7:0", "7:9:0", "8:9:4", "9:-1:6", "10:8:4");
    }

    private static void mostFaults() {
        StructureRows x = new StructureRows();
        x.element(0, 4);
        for (int i = 2; i < 60; i++) {
            x.element(1, 100);
        }
        for (int i = 0; i < 41; i++) {
            x.content(1, 9, 19);
        }
        for (int code = 0; code < 200; code++) {
            x.shows(code / 20, code % 20);
        }
        checks.due("each element thrice, forty repeats, all marks but one", 3 * 58 + 40 + 199, x::check);
        checks.due("the last one's kind", 9, () -> x.fault(412, 0));
        checks.due("the last one's element", -1, () -> x.fault(412, 1));
        checks.due("the last one's number", 198, () -> x.fault(412, 2));
        checks.due("the last one of an element", 59, () -> x.fault(173, 1));
        checks.badIndex("none behind them", () -> x.fault(413, 0));
    }

    private static void latestCheck() {
        StructureRows x = new StructureRows();
        x.element(0, 10);
        checks.badIndex("before a check", () -> x.fault(0, 0));
        checks.due("one fault", 1, x::check);
        x.words(1, true);
        x.element(0, 100);
        checks.same("as the check found them", Checks.latestFaults(x), List.of("6:1:0"));
        checks.due("two others", 2, x::check);
        checks.same("as this one found them", Checks.latestFaults(x), List.of("1:2:0", "7:2:0"));
        x.map(100, 3);
        x.content(2, 0, 0);
        checks.due("none", 0, x::check);
        checks.badIndex("none is left", () -> x.fault(0, 0));
    }

    private static void wrongFaults() {
        for (int i : new int[] {-1, 13, 14, Integer.MIN_VALUE, Integer.MAX_VALUE}) {
            for (int what = 0; what < 3; what++) {
                int of = what;
                checks.refused("fault " + i, "IndexOutOfBoundsException", FaultsTest::all, x -> x.fault(i, of));
            }
        }
        for (int what : new int[] {-1, 3, Integer.MIN_VALUE, Integer.MAX_VALUE}) {
            checks.refused("fault 0, " + what, "IndexOutOfBoundsException", FaultsTest::all, x -> x.fault(0, what));
        }
    }
}
