/** Runs of 512 calls, made by a counter and not by chance, on the class and on the model: each answer is the same. */
public final class ModelTest {
    private static final int RUNS = 1500;
    private static final int CALLS = 512;
    private static final int[][] LIKELY = {{2, 2, 3, 12, 1}, {6, 7, 7, 9, 8}, {4, 5, 5, 12, 3},
            {100, 101, 102, 103, 119}, {10, 3, 1, 11, 2}, {6, 7, 9, 9, 9}};
    private static final int[] ODD = {-1, 60, 10, 20, 13, 99, 120, 7, 9, Integer.MIN_VALUE, Integer.MAX_VALUE, -2};

    private static final Checks checks = new Checks("ModelTest");
    private static long seed = 20261117L;
    private static int elements;
    private static int calls;
    private static int flavour;

    public static void main(String[] args) {
        for (int run = 0; run < RUNS; run++) {
            play(run);
            playTable(run);
            playParts(run);
        }
        checks.end();
    }

    private static int below(int bound) {
        seed = seed * 6364136223846793005L + 1442695040888963407L;
        return (int) Long.remainderUnsigned(seed >>> 33, bound);
    }

    private static int mostly(int low, int count) {
        return below(60) == 0 ? ODD[below(ODD.length)] : low + below(count);
    }

    // Roles drawn alike seldom make a table of rows of cells, or a list of items: the run's flavour helps.
    private static int someRole() {
        if (below(4) == 0) {
            return below(3) == 0 ? mostly(100, 20) : mostly(1, 12);
        }
        return LIKELY[flavour][below(5)];
    }

    private static void play(int run) {
        StructureRows x = new StructureRows();
        Model y = new Model();
        elements = 1;
        calls = 0;
        flavour = run % 6;
        String told = null;
        while (calls < CALLS && told == null) {
            told = step(x, y);
        }
        checks.same("run " + run, told == null ? "" : told + " (call " + calls + ")", "");
    }

    // Tables that come about by themselves are nearly all uneven by their ends: small ones with small spans are not.
    private static void playTable(int run) {
        StructureRows x = new StructureRows();
        Model y = new Model();
        elements = 1;
        calls = 0;
        String told = stepElement(x, y, 0, 6);
        int rows = 2 + below(3);
        for (int row = 0; row < rows && told == null; row++) {
            int number = elements;
            told = stepElement(x, y, 1, 7);
            int cells = below(4);
            for (int cell = 0; cell < cells && told == null; cell++) {
                told = stepElement(x, y, number, 8 + below(2));
            }
        }
        while (calls < CALLS && told == null) {
            told = stepSpan(x, y, 1 + below(elements - 1), 1 + below(3), 1 + below(3));
            told = told == null ? tell("check", x::check, y::check) : told;
        }
        checks.same("table run " + run, told == null ? "" : told + " (call " + calls + ")", "");
    }

    private static void playParts(int run) {
        StructureRows x = new StructureRows();
        Model y = new Model();
        elements = 1;
        calls = 0;
        String told = stepElement(x, y, 0, 3);
        int pages = 5 + below(6);
        while (calls < 220 && told == null) {
            int element = below(2);
            int page = below(pages);
            int mark = below(20);
            told = tell("content " + element + " " + page + " " + mark, () -> x.content(element, page, mark),
                    () -> y.content(element, page, mark));
        }
        told = told == null ? tell("walk", x::walk, y::walk) : told;
        told = told == null ? compareChecks(x, y) : told;
        checks.same("parts run " + run, told == null ? "" : told + " (call " + calls + ")", "");
    }

    private static int someParent() {
        int pick = below(5);
        if (pick < 2) {
            return pick == 0 ? 0 : mostly(0, elements);
        }
        return pick == 2 && flavour != 5 ? elements - 1 : Math.max(0, elements - 1 - below(4));
    }

    private static String step(StructureRows x, Model y) {
        int e = mostly(0, elements);
        int page = mostly(0, flavour == 0 ? 10 : 2);
        int mark = mostly(0, 20);
        int i = below(12) - 1 + below(2) * below(60);
        int what = below(30) == 0 ? ODD[below(ODD.length)] : below(3);
        switch (below(15)) {
            case 0: case 1:
                return stepElement(x, y, someParent(), someRole());
            case 2:
                return stepMap(x, y, mostly(100, flavour == 3 ? 5 : 20),
                        below(2) == 0 ? mostly(100, 5) : mostly(0, 13));
            case 3: case 4:
                return tell("content " + e + " " + page + " " + mark, () -> x.content(e, page, mark),
                        () -> y.content(e, page, mark));
            case 5:
                return tell("shows " + page + " " + mark, () -> x.shows(page, mark), () -> y.shows(page, mark));
            case 6:
                return tell("walk", x::walk, y::walk);
            case 7:
                return tell("at " + i + " " + what, () -> x.at(i, what), () -> y.at(i, what));
            case 8:
                return tell("parent " + page + " " + mark, () -> x.parent(page, mark), () -> y.parent(page, mark));
            case 9:
                return below(3) == 0 ? compareChecks(x, y) : tell("check", x::check, y::check);
            case 10:
                return stepHeading(x, y, e, mostly(1, 6));
            case 11:
                return stepWords(x, y, e, below(2) == 0);
            case 12:
                return stepSpan(x, y, e, mostly(1, below(3) == 0 ? 8 : 2), mostly(1, below(3) == 0 ? 8 : 2));
            case 13:
                return tell("outline " + i + " " + what, () -> x.outline(i, what), () -> y.outline(i, what));
            default:
                return tell("untagged " + i, () -> x.untagged(i), () -> y.untagged(i));
        }
    }

    private static String stepElement(StructureRows x, Model y, int parent, int role) {
        String told = tell("element " + parent + " " + role, () -> x.element(parent, role),
                () -> y.element(parent, role));
        elements = y.elements();
        return told;
    }

    private static String stepMap(StructureRows x, Model y, int role, int to) {
        return tell("map " + role + " " + to, () -> x.map(role, to), () -> y.map(role, to));
    }

    private static String stepHeading(StructureRows x, Model y, int element, int level) {
        return tell("heading " + element + " " + level, () -> x.heading(element, level),
                () -> y.heading(element, level));
    }

    private static String stepWords(StructureRows x, Model y, int element, boolean has) {
        return tell("words " + element + " " + has, () -> x.words(element, has), () -> y.words(element, has));
    }

    private static String stepSpan(StructureRows x, Model y, int cell, int rows, int columns) {
        return tell("span " + cell + " " + rows + " " + columns, () -> x.span(cell, rows, columns),
                () -> y.span(cell, rows, columns));
    }

    private static String compareChecks(StructureRows x, Model y) {
        String told = tell("check", x::check, y::check);
        int count = y.check();
        for (int i = -1; i <= count && told == null; i++) {
            for (int what = 0; what < 3 && told == null; what++) {
                int at = i;
                int of = what;
                told = tell("fault " + i + " " + what, () -> x.fault(at, of), () -> y.fault(at, of));
            }
        }
        return told;
    }

    // An object's answers are free behind its 512th call, so none is compared there.
    private static String tell(String call, Checks.Call onClass, Checks.Call onModel) {
        if (calls >= CALLS) {
            return null;
        }
        calls++;
        String got = Checks.answer(onClass);
        String want = Checks.answer(onModel);
        return got.equals(want) ? null : call + " answered " + got + ", due is " + want;
    }
}
