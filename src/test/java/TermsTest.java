import java.util.ArrayList;
import java.util.List;

/**
 * The document's terms at their edges: the standard of a role, the walk, the kinds of faults and the outline. The
 * sentence that a test holds the class to stands above it. (Tables are laid out in TablesTest.)
 */
public final class TermsTest {
    private static final Checks checks = new Checks("TermsTest");

    public static void main(String[] args) {
        kidsBehindKids();
        waysOfAllLengths();
        waysBackOfAllLengths();
        mappedAgain();
        withoutStandardNothing();
        artefactsAtEveryPlace();
        artefactsWithinArtefacts();
        allInArtefacts();
        leadingLevels();
        levelsOfPairs();
        levelsPassedOver();
        headingsThatAreGone();
        kidsOfLists();
        sixtyElementsAndTheFirstPart();
        kidsOrNone();
        repeatsToldFor();
        untaggedOrNot();
        placesOfPairs();
        placesJustBefore();
        depthsOfTriples();
        depthsOfChains();
        checks.end();
    }

    /** "Others are KIDS of one, behind the kids that it has; kids are elements and MARKED PARTS". */
    private static void kidsBehindKids() {
        for (int turns = 0; turns < 8; turns++) {
            StructureRows x = new StructureRows();
            List<String> want = new ArrayList<>();
            int number = 1;
            for (int i = 0; i < 3; i++) {
                if ((turns >> i & 1) == 0) {
                    x.content(0, 0, i);
                    want.add("0/" + i + " in 0");
                } else {
                    x.content(x.element(0, 3), 0, i);
                    want.add("0/" + i + " in " + number++);
                }
            }
            checks.same("kids in turns " + turns, Checks.walked(x), want);
        }
        StructureRows y = new StructureRows();
        y.element(0, 1);
        y.element(0, 1);
        y.content(2, 0, 0);
        y.content(1, 0, 1);
        y.element(1, 3);
        y.content(3, 0, 2);
        y.content(1, 0, 3);
        y.content(2, 0, 4);
        checks.same("late kids of an early element", Checks.walked(y),
                List.of("0/1 in 1", "0/2 in 3", "0/3 in 1", "0/0 in 2", "0/4 in 2"));
    }

    /** "THE STANDARD of an own role is the standard one to which its maps lead, or there is none": 0 .. 20 maps. */
    private static void waysOfAllLengths() {
        for (int maps = 0; maps <= 20; maps++) {
            for (int standard : new int[] {0, 2, 10, 12}) {
                StructureRows x = new StructureRows();
                x.element(0, 100);
                x.content(1, 0, 0);
                for (int i = 0; i < maps; i++) {
                    x.map(100 + i, i == maps - 1 ? standard : 101 + i);
                }
                String fault = maps == 0 ? "1:1:0" : standard == 2 ? "2:1:0" : standard == 10 ? "6:1:0" : null;
                checks.faults(maps + " maps to " + standard, x, fault == null ? new String[0] : new String[] {fault});
                checks.due("walk by " + maps + " maps to " + standard, maps > 0 && standard == 12 ? 0 : 1, x::walk);
            }
        }
        for (int maps = 1; maps <= 19; maps++) {
            StructureRows x = new StructureRows();
            x.element(0, 119);
            x.content(1, 0, 0);
            for (int i = 0; i < maps; i++) {
                x.map(119 - i, 118 - i);
            }
            checks.faults(maps + " maps that lead to no standard", x, "1:1:0");
        }
    }

    /** "0, and it is not, when that would lead back to it": by 1 .. 20 maps, the map before it stays. */
    private static void waysBackOfAllLengths() {
        for (int roles = 1; roles <= 20; roles++) {
            int last = 99 + roles;
            StructureRows x = new StructureRows();
            x.element(0, last);
            x.content(1, 0, 0);
            for (int role = 100; role < last; role++) {
                int of = role;
                checks.due("map " + role, 1, () -> x.map(of, of + 1));
            }
            for (int role = 100; role <= last; role++) {
                int to = role;
                checks.due(roles + " roles, back to " + role, 0, () -> x.map(last, to));
            }
            checks.faults(roles + " roles, it is mapped to none", x, "1:1:0");
            checks.due(roles + " roles, on", 1, () -> x.map(last, 10));
            checks.due(roles + " roles, back", 0, () -> x.map(last, 100));
            checks.faults(roles + " roles, the map before stays", x, "6:1:0");
            if (roles < 20) {
                checks.due(roles + " roles, to one beside them", 1, () -> x.map(last, last + 1));
                checks.faults(roles + " roles, which has no standard", x, "1:1:0");
            }
        }
    }

    /** "An own role is mapped to another role (again: to that one): 1". */
    private static void mappedAgain() {
        StructureRows x = new StructureRows();
        x.element(0, 100);
        x.content(1, 0, 0);
        for (int standard = 0; standard <= 12; standard++) {
            int to = standard;
            checks.due("to " + standard, 1, () -> x.map(100, to));
            checks.due("to " + standard + ", the same", 1, () -> x.map(100, to));
            boolean fault = standard == 5 || standard >= 7 && standard <= 9;
            String kind = standard == 2 ? "2:1:0" : standard == 10 ? "6:1:0" : fault ? "4:1:0" : null;
            checks.faults("as " + standard, x, kind == null ? new String[0] : new String[] {kind});
        }
        x.map(101, 102);
        checks.due("to a way without an end", 1, () -> x.map(100, 101));
        checks.faults("no standard any more", x, "1:1:0");
        checks.due("the way may not lead back", 0, () -> x.map(102, 100));
        checks.due("away from it", 1, () -> x.map(100, 3));
        checks.due("now it may", 1, () -> x.map(102, 100));
        checks.faults("a paragraph", x);
    }

    /** "or there is none (nothing is such then)": no heading, list, item, table, row, cell, figure or artefact. */
    private static void withoutStandardNothing() {
        StructureRows x = new StructureRows();
        x.element(0, 119);
        x.heading(1, 6);
        x.content(1, 0, 0);
        checks.due("no artefact", 1, x::walk);
        checks.due("no heading, with a level", 0, () -> x.outline(-1, 0));
        checks.faults("no heading, no figure", x, "1:1:0");
        for (int role = 1; role <= 12; role++) {
            StructureRows y = new StructureRows();
            y.element(0, 119);
            y.element(1, role);
            y.content(2, 0, 0);
            y.heading(2, 1);
            y.words(2, true);
            boolean stray = role == 5 || role >= 7 && role <= 9;
            checks.faults("no list, table or row with kid " + role, y,
                    stray ? new String[] {"1:1:0", "4:2:0"} : new String[] {"1:1:0"});
        }
        StructureRows z = new StructureRows();
        z.element(0, 119);
        checks.faults("no figure without kids", z, "1:1:0", "7:1:0");
    }

    /** "artefacts, and all in them, are passed over": the first, the middle, the last, and any of three kids. */
    private static void artefactsAtEveryPlace() {
        for (int passed = 0; passed < 8; passed++) {
            StructureRows x = new StructureRows();
            x.map(100, 12);
            List<String> want = new ArrayList<>();
            for (int i = 0; i < 3; i++) {
                boolean artefact = (passed >> i & 1) == 1;
                int outer = x.element(0, artefact ? i == 1 ? 100 : 12 : 1);
                x.content(outer, i, 0);
                int inner = x.element(outer, 2);
                x.heading(inner, 1);
                x.content(inner, i, 1);
                x.content(outer, i, 2);
                if (!artefact) {
                    want.add(i + "/0 in " + outer);
                    want.add(i + "/1 in " + inner);
                    want.add(i + "/2 in " + outer);
                }
            }
            checks.same("artefacts " + passed, Checks.walked(x), want);
            checks.due("walk with artefacts " + passed, want.size(), x::walk);
            checks.due("outline with artefacts " + passed, want.size() / 3, () -> x.outline(-1, 0));
        }
    }

    /** The same of artefacts in artefacts, at each depth of a chain of sixty. */
    private static void artefactsWithinArtefacts() {
        for (int depth = 1; depth < 60; depth++) {
            StructureRows x = new StructureRows();
            for (int i = 0; i < 59; i++) {
                x.element(i, i + 1 == depth || i + 1 == depth + 2 ? 12 : 1);
            }
            for (int i = 0; i < 60; i++) {
                x.content(i, i / 20, i % 20);
            }
            checks.due("artefact " + depth + " deep", depth, x::walk);
            int last = depth - 1;
            checks.due("the deepest before it", last, () -> x.at(0, 2));
            checks.due("the document's own", 0, () -> x.at(last, 2));
            checks.badIndex("none behind it", () -> x.at(last + 1, 2));
        }
    }

    private static void allInArtefacts() {
        StructureRows x = new StructureRows();
        x.element(0, 12);
        for (int code = 0; code < 100; code++) {
            x.content(1, code / 20, code % 20);
        }
        checks.due("a full walk of nothing", 0, x::walk);
        checks.badIndex("no part of it", () -> x.at(0, 0));
        checks.due("each is in it", 1, () -> x.parent(4, 19));
        checks.due("and no fault", 0, x::check);
    }

    private static void addHeading(StructureRows x, int parent, int role, int level) {
        int element = x.element(parent, role);
        if (level > 0) {
            x.heading(element, level);
        }
        x.content(element, element / 20, element % 20);
    }

    /** "(of the first one: than 0)"; "the number is its level". */
    private static void leadingLevels() {
        for (int level = 1; level <= 6; level++) {
            StructureRows x = new StructureRows();
            addHeading(x, 0, 2, level);
            checks.faults("the first at " + level, x,
                    level == 1 ? new String[0] : new String[] {"3:1:" + level});
        }
    }

    /** "whose level is more than one greater than that of the heading with a level before it". */
    private static void levelsOfPairs() {
        for (int first = 1; first <= 6; first++) {
            for (int second = 1; second <= 6; second++) {
                StructureRows x = new StructureRows();
                addHeading(x, 0, 2, first);
                addHeading(x, 0, 2, second);
                List<String> want = new ArrayList<>();
                if (first > 1) {
                    want.add("3:1:" + first);
                }
                if (second > first + 1) {
                    want.add("3:2:" + second);
                }
                checks.faults(first + " then " + second, x, want.toArray(new String[0]));
                addHeading(x, 0, 2, first);
                if (first > second + 1) {
                    want.add("3:3:" + first);
                }
                checks.faults(first + ", " + second + " and back", x, want.toArray(new String[0]));
            }
        }
    }

    /** ".. a heading, in the walk, .. the heading with a level before it": others between do not count. */
    private static void levelsPassedOver() {
        StructureRows x = new StructureRows();
        addHeading(x, 0, 2, 1);
        addHeading(x, 0, 2, 0);
        addHeading(x, 0, 3, 2);
        addHeading(x, 0, 12, 2);
        addHeading(x, 4, 2, 2);
        addHeading(x, 0, 119, 2);
        addHeading(x, 0, 2, 3);
        checks.faults("no level, no heading, an artefact, no standard", x, "1:6:0", "2:2:0", "3:7:3");
        x.heading(2, 2);
        checks.faults("a level between", x, "1:6:0");
        x.map(119, 2);
        checks.faults("one more of it", x);
        x.heading(6, 1);
        checks.faults("the one just before counts, not the greatest", x, "3:7:3");
    }

    /** A check looks for all anew: headings that the walk has no more leave nothing behind. */
    private static void headingsThatAreGone() {
        StructureRows x = new StructureRows();
        x.map(100, 1);
        x.element(0, 100);
        for (int level = 1; level <= 6; level += 5) {
            addHeading(x, 1, 2, level);
        }
        checks.faults("1, 6", x, "3:3:6");
        x.map(100, 12);
        checks.faults("both in an artefact", x);
        checks.due("no outline", 0, () -> x.outline(-1, 0));
        checks.badIndex("no heading of it", () -> x.outline(0, 0));
        addHeading(x, 0, 2, 1);
        checks.faults("one behind them", x);
        checks.same("the outline", Checks.outlined(x), List.of("4 depth 0 level 1"));
        x.map(100, 1);
        checks.faults("in the walk again", x, "3:3:6");
    }

    /** "4 .. an item and not a list's kid; a kid of a list that is none ..": kids alone, not what is in them. */
    private static void kidsOfLists() {
        int[][] pairs = {{4, 5}, {7, 8}, {7, 9}};
        for (int[] pair : pairs) {
            StructureRows x = new StructureRows();
            x.element(0, pair[0]);
            x.element(1, pair[1]);
            x.element(2, 11);
            x.content(3, 0, 0);
            String[] outer = pair[0] == 7 ? new String[] {"4:1:0"} : new String[0];
            checks.faultsOf(4, "kids of kids of " + pair[0], x, outer);
            x.element(3, pair[1]);
            checks.faultsOf(4, pair[1] + " deeper in " + pair[0], x,
                    pair[0] == 7 ? new String[] {"4:1:0", "4:4:0"} : new String[] {"4:4:0"});
        }
        StructureRows table = new StructureRows();
        table.element(0, 6);
        table.element(1, 7);
        table.element(2, 9);
        table.element(3, 7);
        checks.faultsOf(4, "a row in a table's row's cell", table, "4:4:0");
        StructureRows y = new StructureRows();
        y.element(0, 6);
        y.element(1, 5);
        y.element(0, 4);
        y.element(3, 7);
        y.element(4, 7);
        y.element(4, 6);
        checks.faultsOf(4, "each element once, though two fit", y, "4:2:0", "4:4:0", "4:5:0", "4:6:0");
    }

    /** A marked part is no element, also where there are as many elements as there can be. */
    private static void sixtyElementsAndTheFirstPart() {
        for (int role : new int[] {4, 6, 7, 10, 119}) {
            StructureRows x = new StructureRows();
            x.element(0, role);
            for (int number = 2; number < 60; number++) {
                x.content(x.element(0, 3), number / 20, number % 20);
            }
            x.content(1, 0, 0);
            String fault = role == 7 ? "4:1:0" : role == 10 ? "6:1:0" : role == 119 ? "1:1:0" : null;
            checks.faults("part 0/0 in " + role, x, fault == null ? new String[0] : new String[] {fault});
        }
    }

    /** "7 an element (by numbers) without kids, but a figure, or the document (element 0 alone)." */
    private static void kidsOrNone() {
        for (int role = 1; role <= 13; role++) {
            StructureRows x = new StructureRows();
            x.element(0, role == 13 ? 119 : role);
            x.content(0, 0, 0);
            String[] want = role == 10 ? new String[0] : new String[] {"7:1:0"};
            checks.faultsOf(7, "without kids: " + role, x, want);
            x.content(1, 0, 0);
            checks.faultsOf(7, "a part that was told once more is no kid: " + role, x, want);
            Checks.answer(() -> x.content(1, 0, 20));
            checks.faultsOf(7, "nor is one that was refused: " + role, x, want);
            x.content(1, 0, 1);
            checks.faultsOf(7, "with a part: " + role, x);
            StructureRows y = new StructureRows();
            y.element(0, role == 13 ? 119 : role);
            y.element(1, 12);
            checks.faultsOf(7, "with an artefact: " + role, y, "7:2:0");
        }
        StructureRows z = new StructureRows();
        checks.faults("the document without kids", z);
        z.map(100, 0);
        z.element(0, 100);
        checks.faults("another document without kids", z, "7:1:0");
    }

    /** "8 .. (in that order): the number is 20 times its page, and its mark; the element the one .. told for." */
    private static void repeatsToldFor() {
        int[][] marks = {{0, 0}, {0, 19}, {1, 0}, {8, 19}, {9, 0}, {9, 19}};
        StructureRows x = new StructureRows();
        x.element(0, 12);
        x.element(0, 3);
        for (int[] mark : marks) {
            x.content(2, mark[0], mark[1]);
        }
        List<String> want = new ArrayList<>();
        for (int i = marks.length - 1; i >= 0; i--) {
            x.content(i % 3, marks[i][0], marks[i][1]);
            want.add("8:" + i % 3 + ":" + (20 * marks[i][0] + marks[i][1]));
        }
        checks.faultsOf(8, "told for each", x, want.toArray(new String[0]));
        checks.noElement("told for none", () -> x.content(3, 0, 0));
        checks.faultsOf(8, "what is refused is not told", x, want.toArray(new String[0]));
    }

    /** "9 a mark that a page shows (by pages, as they are shown), in no element; .. no element (-1)." */
    private static void untaggedOrNot() {
        int[][] marks = {{9, 19}, {9, 0}, {0, 19}, {0, 0}, {5, 10}};
        StructureRows x = new StructureRows();
        x.element(0, 12);
        checks.faultsOf(9, "nothing shown", x);
        for (int[] mark : marks) {
            x.shows(mark[0], mark[1]);
        }
        checks.faultsOf(9, "all shown", x, "9:-1:19", "9:-1:0", "9:-1:110", "9:-1:199", "9:-1:180");
        x.content(1, 9, 19);
        x.content(0, 0, 0);
        checks.faultsOf(9, "one in an artefact, one in the document", x, "9:-1:19", "9:-1:110", "9:-1:180");
        x.content(0, 7, 7);
        checks.faultsOf(9, "one that is not shown", x, "9:-1:19", "9:-1:110", "9:-1:180");
        x.content(0, 9, 0);
        x.content(0, 0, 19);
        x.content(0, 5, 10);
        checks.faultsOf(9, "none left", x);
    }

    /** "10 a marked part, in the walk, that its page shows before one of the same page ..": each pair of places. */
    private static void placesOfPairs() {
        for (int page = 0; page < 10; page += 9) {
            for (int first = 0; first < 20; first++) {
                for (int second = 0; second < 20; second++) {
                    if (first == second) {
                        continue;
                    }
                    StructureRows x = new StructureRows();
                    for (int place = 0; place < 20; place++) {
                        x.shows(page, 19 - place);
                    }
                    x.element(0, 3);
                    x.content(0, page, 19 - second);
                    x.content(1, page, 19 - first);
                    int code = 20 * page + 19 - second;
                    checks.faultsOf(10, "page " + page + ", places " + first + ", " + second, x,
                            second < first ? new String[] {"10:0:" + code} : new String[0]);
                }
            }
        }
    }

    private static StructureRows shownInOrder(int pages) {
        StructureRows x = new StructureRows();
        for (int mark = 0; mark < 6; mark++) {
            for (int page = 0; page < pages; page++) {
                x.shows(page, mark);
            }
        }
        return x;
    }

    /** ".. that came in the walk just before it (of those that it shows)". */
    private static void placesJustBefore() {
        StructureRows x = shownInOrder(1);
        for (int mark : new int[] {5, 1, 3, 2, 4, 0}) {
            x.content(0, 0, mark);
        }
        checks.faultsOf(10, "the one just before, not the latest place", x, "10:0:1", "10:0:2", "10:0:0");
        StructureRows y = shownInOrder(2);
        int[][] parts = {{0, 3}, {1, 5}, {0, 19}, {1, 18}, {0, 4}, {1, 4}, {2, 0}, {0, 2}};
        for (int[] part : parts) {
            y.content(0, part[0], part[1]);
        }
        checks.faultsOf(10, "marks that are not shown, and other pages, between", y, "10:0:24", "10:0:2");
        y.shows(0, 19);
        checks.faultsOf(10, "shown last, it is just before", y, "10:0:4", "10:0:24", "10:0:2");
        StructureRows z = shownInOrder(1);
        z.element(0, 100);
        z.content(0, 0, 1);
        z.element(0, 101);
        z.content(2, 0, 5);
        z.content(0, 0, 2);
        z.content(1, 0, 3);
        checks.faultsOf(10, "3, 1, 5, 2 in the walk", z, "10:0:1", "10:0:2");
        z.map(101, 12);
        checks.faultsOf(10, "an artefact between", z, "10:0:1");
        z.map(100, 12);
        checks.faultsOf(10, "an artefact before", z);
    }

    private static int depth(int[] levels, int i) {
        for (int before = i - 1; before >= 0; before--) {
            if (levels[before] < levels[i]) {
                return 1 + depth(levels, before);
            }
        }
        return 0;
    }

    /** "it lies in the latest one before it with a lesser level, and in what that lies in": all rows of three. */
    private static void depthsOfTriples() {
        for (int code = 0; code < 216; code++) {
            int[] levels = {1 + code / 36, 1 + code / 6 % 6, 1 + code % 6};
            StructureRows x = new StructureRows();
            List<String> want = new ArrayList<>();
            for (int i = 0; i < 3; i++) {
                addHeading(x, 0, 2, levels[i]);
                want.add(i + 1 + " depth " + depth(levels, i) + " level " + levels[i]);
            }
            checks.same("levels " + levels[0] + levels[1] + levels[2], Checks.outlined(x), want);
        }
    }

    /** "the DEPTH is how many others it lies in": not how deep its element is, and six levels at most. */
    private static void depthsOfChains() {
        StructureRows x = new StructureRows();
        for (int i = 0; i < 59; i++) {
            x.element(i, 2);
            x.heading(i + 1, 6 - i % 6);
        }
        for (int i = 0; i < 59; i++) {
            int of = i;
            checks.due("falling levels, depth of " + i, i < 6 ? 0 : 6 - i % 6 == 1 ? 0 : 1, () -> x.outline(of, 1));
        }
        StructureRows y = new StructureRows();
        for (int i = 0; i < 59; i++) {
            y.heading(y.element(0, 2), Math.min(i + 1, 6));
        }
        for (int i = 0; i < 59; i++) {
            int of = i;
            checks.due("rising levels, depth of " + i, Math.min(i, 5), () -> y.outline(of, 1));
        }
    }
}
