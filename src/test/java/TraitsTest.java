import java.util.List;

/** Promises 11 to 14: levels, words, spans, and the outline. */
public final class TraitsTest {
    private static final Checks checks = new Checks("TraitsTest");

    public static void main(String[] args) {
        levels();
        words();
        spans();
        wrongTraits();
        outline();
        outlineDepths();
        outlineParts();
        wrongOutline();
        checks.end();
    }

    private static void levels() {
        StructureRows x = new StructureRows();
        x.element(0, 3);
        int before = 0;
        for (int level = 1; level <= 6; level++) {
            int to = level;
            checks.due("level " + level, before, () -> x.heading(1, to));
            before = level;
        }
        checks.due("the document's", 0, () -> x.heading(0, 3));
        checks.due("the document's, again", 3, () -> x.heading(0, 1));
        checks.due("a level that counts for nothing", 0, () -> x.outline(-1, 0));
    }

    private static void words() {
        StructureRows x = new StructureRows();
        x.element(0, 10);
        checks.due("none at first", 0, () -> x.words(1, false));
        checks.due("none yet", 0, () -> x.words(1, true));
        checks.due("words", 1, () -> x.words(1, true));
        checks.due("words still", 1, () -> x.words(1, false));
        checks.due("none again", 0, () -> x.words(1, false));
        checks.due("the document's are its own", 0, () -> x.words(0, true));
    }

    private static void spans() {
        StructureRows x = new StructureRows();
        x.element(0, 3);
        checks.due("at first", 11, () -> x.span(1, 8, 2));
        checks.due("rows, then columns", 82, () -> x.span(1, 1, 8));
        checks.due("and again", 18, () -> x.span(1, 8, 8));
        checks.due("the most", 88, () -> x.span(1, 1, 1));
        checks.due("the document's", 11, () -> x.span(0, 3, 4));
        checks.due("the document's, then", 34, () -> x.span(0, 3, 4));
    }

    private static void scene(StructureRows x) {
        x.element(0, 2);
        x.element(0, 10);
        x.heading(1, 3);
        x.words(2, true);
        x.span(2, 5, 6);
        x.content(1, 0, 0);
    }

    private static void wrongTraits() {
        String none = "NoSuchElementException";
        String bad = "IllegalArgumentException";
        for (int element : new int[] {-1, 3, 60, Integer.MIN_VALUE, Integer.MAX_VALUE}) {
            checks.refused("heading " + element, none, TraitsTest::scene, x -> x.heading(element, 1));
            checks.refused("heading " + element + ", no level", none, TraitsTest::scene, x -> x.heading(element, 0));
            checks.refused("words " + element, none, TraitsTest::scene, x -> x.words(element, true));
            checks.refused("span " + element, none, TraitsTest::scene, x -> x.span(element, 1, 1));
            checks.refused("span " + element + ", none", none, TraitsTest::scene, x -> x.span(element, 0, 9));
        }
        for (int level : new int[] {0, 7, -1, Integer.MIN_VALUE, Integer.MAX_VALUE}) {
            checks.refused("level " + level, bad, TraitsTest::scene, x -> x.heading(1, level));
        }
        for (int size : new int[] {0, 9, -1, Integer.MIN_VALUE, Integer.MAX_VALUE}) {
            checks.refused("rows " + size, bad, TraitsTest::scene, x -> x.span(2, size, 1));
            checks.refused("columns " + size, bad, TraitsTest::scene, x -> x.span(2, 1, size));
        }
    }

    private static void outline() {
        StructureRows x = new StructureRows();
        x.element(0, 1);
        x.element(0, 2);
        x.element(1, 2);
        x.element(1, 2);
        x.element(3, 100);
        x.element(0, 12);
        x.element(6, 2);
        x.heading(2, 1);
        x.heading(3, 2);
        x.heading(5, 5);
        x.heading(7, 1);
        checks.same("in the walk, a level needed, no artefacts, no role without a standard", Checks.outlined(x),
                List.of("3 depth 0 level 2", "2 depth 0 level 1"));
        x.map(100, 2);
        checks.same("a heading by a map, in another", Checks.outlined(x),
                List.of("3 depth 0 level 2", "5 depth 1 level 5", "2 depth 0 level 1"));
        x.heading(4, 3);
        checks.same("one that has a level now", Checks.outlined(x),
                List.of("3 depth 0 level 2", "5 depth 1 level 5", "4 depth 1 level 3", "2 depth 0 level 1"));
        checks.due("how many", 4, () -> x.outline(-1, 0));
        for (int what : new int[] {1, 2, 3, -1, Integer.MIN_VALUE, Integer.MAX_VALUE}) {
            checks.due("how many, whatever is asked for", 4, () -> x.outline(-1, what));
        }
    }

    private static void outlineDepths() {
        int[] levels = {3, 1, 2, 2, 5, 4, 6, 3, 1, 6, 5, 6, 1, 2, 3, 4, 5, 6, 2};
        int[] depths = {0, 0, 1, 1, 2, 2, 3, 2, 0, 1, 1, 2, 0, 1, 2, 3, 4, 5, 1};
        StructureRows x = new StructureRows();
        for (int i = 0; i < levels.length; i++) {
            x.heading(x.element(0, 2), levels[i]);
        }
        for (int i = 0; i < levels.length; i++) {
            int of = i;
            checks.due("element of heading " + i, i + 1, () -> x.outline(of, 0));
            checks.due("depth of heading " + i, depths[i], () -> x.outline(of, 1));
            checks.due("level of heading " + i, levels[i], () -> x.outline(of, 2));
        }
    }

    private static void outlineParts() {
        StructureRows x = new StructureRows();
        for (int i = 0; i < 59; i++) {
            x.heading(x.element(i, 2), 1 + i % 6);
        }
        checks.due("all elements", 59, () -> x.outline(-1, 0));
        checks.due("the last one's element", 59, () -> x.outline(58, 0));
        checks.due("the last one's depth", 4, () -> x.outline(58, 1));
        checks.due("the last one's level", 5, () -> x.outline(58, 2));
        checks.badIndex("none behind it", () -> x.outline(59, 0));
    }

    private static void wrongOutline() {
        for (int i : new int[] {-2, 1, 2, 60, Integer.MIN_VALUE, Integer.MAX_VALUE}) {
            for (int what = 0; what < 3; what++) {
                int of = what;
                checks.refused("outline " + i, "IndexOutOfBoundsException", TraitsTest::scene, x -> x.outline(i, of));
            }
        }
        for (int what : new int[] {-1, 3, Integer.MIN_VALUE, Integer.MAX_VALUE}) {
            checks.refused("outline 0, " + what, "IndexOutOfBoundsException", TraitsTest::scene,
                    x -> x.outline(0, what));
        }
    }
}
