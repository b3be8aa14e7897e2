/** Objects in states that the tests meet again and again: as it is made, with some of everything, and full. */
final class Scenes {
    /** The number of the first element that is not there, by scene. */
    static final int[] ELEMENTS = {1, 21, 60};
    /** How many parts the walk has, by scene. */
    static final int[] WALKED = {0, 5, 88};
    /** How many faults the latest check found, by scene. */
    static final int[] FAULTS = {0, 22, 203};
    /** How many headings the outline has, by scene. */
    static final int[] OUTLINED = {0, 3, 29};
    /** How many shown marks are in no element, by scene. */
    static final int[] LOOSE = {0, 3, 100};

    static final Checks.Scene[] ALL = {Scenes::empty, Scenes::rich, Scenes::full};
    static final String[] NAMES = {"new", "rich", "full"};

    private Scenes() {
    }

    static void empty(StructureRows x) {
    }

    /** Every kind of fault, every standard role but span, maps of all sorts, and a change since the latest check. */
    static void rich(StructureRows x) {
        x.map(100, 101);
        x.map(101, 2);
        x.map(102, 12);
        x.map(103, 104);
        int[][] elements = {{0, 2}, {0, 6}, {2, 7}, {2, 7}, {3, 8}, {3, 9}, {4, 9}, {0, 10}, {0, 4}, {9, 5}, {9, 3},
            {0, 5}, {0, 103}, {0, 100}, {0, 102}, {15, 2}, {0, 2}, {0, 12}, {0, 1}, {19, 10}};
        for (int[] element : elements) {
            x.element(element[0], element[1]);
        }
        x.heading(1, 2);
        x.heading(14, 6);
        x.heading(16, 1);
        x.words(20, true);
        x.span(5, 2, 1);
        x.span(7, 1, 2);
        int[][] parts = {{0, 0, 5}, {1, 0, 4}, {10, 0, 3}, {14, 9, 19}, {15, 9, 0}, {18, 3, 3}, {11, 3, 4}, {13, 0, 5},
            {1, 0, 5}, {0, 9, 0}};
        for (int[] part : parts) {
            x.content(part[0], part[1], part[2]);
        }
        int[][] shown = {{0, 3}, {0, 4}, {0, 5}, {0, 6}, {9, 19}, {9, 18}, {9, 0}, {4, 2}};
        for (int[] mark : shown) {
            x.shows(mark[0], mark[1]);
        }
        x.check();
        x.words(8, true);
        x.heading(17, 1);
    }

    /** Nothing more fits: 60 elements, 100 parts, 40 repeats, all marks shown, all own roles mapped; 451 calls. */
    static void full(StructureRows x) {
        for (int role = 119; role >= 100; role--) {
            x.map(role, role == 119 ? 2 : role + 1);
        }
        x.element(0, 12);
        x.element(0, 4);
        for (int number = 3; number < 60; number++) {
            x.element(number % 3 == 0 ? 0 : 2, number % 2 == 0 ? 3 : 100 + number % 20);
        }
        for (int i = 0; i < 100; i++) {
            x.content(i % 10 == 0 ? 1 : i % 60, i / 10, 19 - i % 10);
        }
        for (int i = 0; i < 40; i++) {
            x.content(i, 9, 10 + i % 10);
        }
        for (int i = 0; i < 200; i++) {
            x.shows(i / 20, 19 - i % 20);
        }
        for (int i = 3; i < 60; i += 2) {
            x.heading(i, 1 + i % 6);
        }
        x.words(58, true);
        x.span(59, 8, 7);
        x.check();
    }
}
