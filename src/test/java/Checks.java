import java.util.ArrayList;
import java.util.List;

/** What the tests share: answers that are due, exceptions that are due, and calls that change nothing. */
final class Checks {
    /** A call of the class whose answer, or exception, is looked at. */
    interface Call {
        int run();
    }

    /** Calls that are made on an object before something is looked at. */
    interface Scene {
        void play(StructureRows rows);
    }

    /** A call on an object that is handed in. */
    interface Asked {
        int of(StructureRows rows);
    }

    private final String test;
    private int made = 0;
    private int wrong = 0;

    Checks(String test) {
        this.test = test;
    }

    /** The answer of a call as text: its number, or throws. and the exception's name (its own class, none above it). */
    static String answer(Call call) {
        try {
            return Integer.toString(call.run());
        } catch (RuntimeException e) {
            return "throws." + e.getClass().getSimpleName();
        }
    }

    void same(String what, Object got, Object want) {
        made++;
        if (!want.equals(got)) {
            wrong++;
            System.out.println(test + ": " + what + " answered " + got + ", due is " + want);
        }
    }

    void due(String what, int want, Call call) {
        same(what, answer(call), Integer.toString(want));
    }

    void noElement(String what, Call call) {
        same(what, answer(call), "throws.NoSuchElementException");
    }

    void badArgument(String what, Call call) {
        same(what, answer(call), "throws.IllegalArgumentException");
    }

    void badIndex(String what, Call call) {
        same(what, answer(call), "throws.IndexOutOfBoundsException");
    }

    void full(String what, Call call) {
        same(what, answer(call), "throws.UnsupportedOperationException");
    }

    /** All faults that a check finds, as kind:element:number. */
    void faults(String what, StructureRows rows, String... want) {
        int count = rows.check();
        same(what + ", their count", count, want.length);
        same(what, latestFaults(rows), List.of(want));
    }

    /** The same, of one kind alone. */
    void faultsOf(int kind, String what, StructureRows rows, String... want) {
        rows.check();
        List<String> got = new ArrayList<>();
        for (String fault : latestFaults(rows)) {
            if (fault.startsWith(kind + ":")) {
                got.add(fault);
            }
        }
        same(what, got, List.of(want));
    }

    /** The refused call throws what is due, and leaves all as it is in an object that never met it. */
    void refused(String what, String exception, Scene scene, Scene call) {
        refused(what, exception, scene, Seen.of(scene), call);
    }

    /** The same, where all that is seen behind the scene alone is known. */
    void refused(String what, String exception, Scene scene, List<String> untouched, Scene call) {
        kept(what, "throws." + exception, scene, untouched, x -> {
            call.play(x);
            return 0;
        });
    }

    /** The call answers what is due (a number, or throws. and a name), and leaves all as it is. */
    void kept(String what, String answer, Scene scene, List<String> untouched, Asked call) {
        StructureRows met = new StructureRows();
        scene.play(met);
        same(what, answer(() -> call.of(met)), answer);
        List<String> seen = Seen.of(x -> {
            scene.play(x);
            answer(() -> call.of(x));
        });
        same(what + ", what it changed", Seen.difference(seen, untouched), "none");
    }

    static List<String> latestFaults(StructureRows rows) {
        return table(i -> rows.fault(i, 0) + ":" + rows.fault(i, 1) + ":" + rows.fault(i, 2));
    }

    static List<String> walked(StructureRows rows) {
        return table(i -> rows.at(i, 0) + "/" + rows.at(i, 1) + " in " + rows.at(i, 2));
    }

    static List<String> outlined(StructureRows rows) {
        return table(i -> rows.outline(i, 0) + " depth " + rows.outline(i, 1) + " level " + rows.outline(i, 2));
    }

    static List<String> loose(StructureRows rows) {
        return table(i -> Integer.toString(rows.untagged(i)));
    }

    private interface Line {
        String of(int i);
    }

    private static List<String> table(Line line) {
        List<String> lines = new ArrayList<>();
        for (int i = 0; i < 1000; i++) {
            try {
                lines.add(line.of(i));
            } catch (IndexOutOfBoundsException e) {
                if (e.getClass() != IndexOutOfBoundsException.class) {
                    lines.add(e.toString());
                }
                return lines;
            }
        }
        return lines;
    }

    /** Says how it went, and ends with exit code 1 if an answer was wrong. */
    void end() {
        System.out.println(test + ": " + made + " answers, " + wrong + " not as due");
        if (wrong != 0 || made == 0) {
            System.exit(1);
        }
    }
}
