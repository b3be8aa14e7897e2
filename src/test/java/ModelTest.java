/** Runs of 512 calls, made by a counter and not by chance, on the class and on the model: each answer is the same. */
public final class ModelTest {
    private static final int RUNS = 3000;
    private static final int CALLS = 512;
    private static final int[] ODD = {-1, 60, 10, 20, 13, 99, 120, 7, 9, Integer.MIN_VALUE, Integer.MAX_VALUE, -2};

    private static final Checks checks = new Checks("ModelTest");
    private static long seed = 20261117L;

    public static void main(String[] args) {
        for (int run = 0; run < RUNS; run++) {
            play(run);
        }
        checks.end();
    }

    private static int below(int bound) {
        seed = seed * 6364136223846793005L + 1442695040888963407L;
        return (int) Long.remainderUnsigned(seed >>> 33, bound);
    }

    private static int mostly(int low, int count) {
        return below(60) == 0 ? ODD[below(ODD.length)] : low + below(count);
    }

    // Few of the choices make tables, lists and own roles often enough to meet by themselves: the run's flavour helps.
    private static int someRole(int flavour) {
        int[][] likely = {{2, 2, 3, 12, 1}, {6, 7, 7, 9, 8}, {4, 5, 5, 12, 3}, {100, 101, 102, 103, 119}, {10, 3, 1, 11, 2}};
        if (below(4) == 0) {
            return below(3) == 0 ? mostly(100, 20) : mostly(1, 12);
        }
        return likely[flavour % likely.length][below(5)];
    }

    private static void play(int run) {
        StructureRows x = new StructureRows();
        Model y = new Model();
        int[] made = {1, 0};
        StringBuilder trace = new StringBuilder();
        for (int call = 0; call < CALLS; call++) {
            int a = below(14);
            String said = step(x, y, a, run % 6, made);
            if (said != null) {
                checks.same("run " + run + ", call " + call, said, "");
                return;
            }
        }
        checks.same("run " + run, trace.toString(), "");
    }

    private static int parentFor(int flavour, int elements) {
        int pick = below(5);
        return pick == 0 ? 0 : pick == 1 ? mostly(0, elements) : pick == 2 && flavour != 5 ? elements - 1
                : Math.max(0, elements - 1 - below(4));
    }

    private static String step(StructureRows x, Model y, int which, int flavour, int[] made) {
        int elements = made[0];
        int e = mostly(0, elements);
        int page = mostly(0, flavour == 0 ? 10 : 2);
        int mark = mostly(0, 20);
        int i = below(12) - 1 + below(2) * below(60);
        int what = below(30) == 0 ? ODD[below(ODD.length)] : below(3);
        switch (which) {
            case 0: case 1: {
                int up = parentFor(flavour, elements);
                int role = someRole(flavour);
                String got = Checks.answer(() -> x.element(up, role));
                if (!got.startsWith("throws")) {
                    made[0]++;
                }
                return tell("element " + up + " " + role, got, Checks.answer(() -> y.element(up, role)));
            }
            case 2: {
                int from = mostly(100, flavour == 3 ? 5 : 20);
                int to = below(2) == 0 ? mostly(100, 5) : mostly(0, 13);
                return tell("map " + from + " " + to, Checks.answer(() -> x.map(from, to)), Checks.answer(() -> y.map(from, to)));
            }
            case 3: case 4:
                return tell("content " + e + " " + page + " " + mark, Checks.answer(() -> x.content(e, page, mark)),
                        Checks.answer(() -> y.content(e, page, mark)));
            case 5:
                return tell("shows " + page + " " + mark, Checks.answer(() -> x.shows(page, mark)),
                        Checks.answer(() -> y.shows(page, mark)));
            case 6:
                return tell("walk", Checks.answer(x::walk), Checks.answer(y::walk));
            case 7:
                return tell("at " + i + " " + what, Checks.answer(() -> x.at(i, what)), Checks.answer(() -> y.at(i, what)));
            case 8:
                return tell("parent", Checks.answer(() -> x.parent(page, mark)), Checks.answer(() -> y.parent(page, mark)));
            case 9:
                return compareChecks(x, y);
            case 10: {
                int level = mostly(1, 6);
                return tell("heading", Checks.answer(() -> x.heading(e, level)), Checks.answer(() -> y.heading(e, level)));
            }
            case 11: {
                boolean has = below(2) == 0;
                return tell("words", Checks.answer(() -> x.words(e, has)), Checks.answer(() -> y.words(e, has)));
            }
            case 12: {
                int rows = below(3) == 0 ? mostly(1, 8) : mostly(1, 2);
                int columns = below(3) == 0 ? mostly(1, 8) : mostly(1, 2);
                return tell("span", Checks.answer(() -> x.span(e, rows, columns)),
                        Checks.answer(() -> y.span(e, rows, columns)));
            }
            default:
                String told = tell("outline " + i + " " + what, Checks.answer(() -> x.outline(i, what)),
                        Checks.answer(() -> y.outline(i, what)));
                return told != null ? told
                        : tell("untagged " + i, Checks.answer(() -> x.untagged(i)), Checks.answer(() -> y.untagged(i)));
        }
    }

    private static String compareChecks(StructureRows x, Model y) {
        int count = y.check();
        String told = tell("check", Checks.answer(x::check), Integer.toString(count));
        for (int i = -1; i <= count && told == null; i++) {
            for (int what = 0; what < 3 && told == null; what++) {
                int at = i;
                int of = what;
                told = tell("fault " + i + " " + what, Checks.answer(() -> x.fault(at, of)), Checks.answer(() -> y.fault(at, of)));
            }
        }
        return told;
    }

    private static String tell(String call, String got, String want) {
        return got.equals(want) ? null : call + " answered " + got + ", due is " + want;
    }
}
