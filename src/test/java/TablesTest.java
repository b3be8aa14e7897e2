import java.util.Arrays;

/** How tables are laid out, and which are uneven (fault 5). */
public final class TablesTest {
    private static final Checks checks = new Checks("TablesTest");

    public static void main(String[] args) {
        even();
        uneven();
        reachedFromAbove();
        taken();
        emptyRows();
        wide();
        otherKids();
        severalTables();
        byMaps();
        checks.end();
    }

    /** A table of rows of cells, each cell ten times its rows, and its columns. */
    private static StructureRows table(int[]... rows) {
        StructureRows x = new StructureRows();
        addTable(x, rows);
        return x;
    }

    private static int addTable(StructureRows x, int[]... rows) {
        int table = x.element(0, 6);
        for (int[] cells : rows) {
            int row = x.element(table, 7);
            for (int i = 0; i < cells.length; i++) {
                x.span(x.element(row, i % 2 == 0 ? 8 : 9), cells[i] / 10, cells[i] % 10);
            }
        }
        return table;
    }

    private static int[] row(int... cells) {
        return cells;
    }

    private static void isEven(String what, StructureRows x) {
        checks.faultsOf(5, what, x);
    }

    private static void isUneven(String what, StructureRows x) {
        checks.faultsOf(5, what, x, "5:1:0");
    }

    private static void even() {
        isEven("no rows", table());
        isEven("one row", table(row(11, 11, 11)));
        isEven("three by two", table(row(11, 11, 11), row(11, 11, 11)));
        isEven("columns add up", table(row(12, 11), row(11, 12), row(13), row(11, 11, 11)));
        isEven("rows from above", table(row(21, 11), row(11), row(11, 11)));
        isEven("rows that do not come", table(row(81, 84), row()));
        isEven("rows that do not come, of one row", table(row(88)));
    }

    private static void uneven() {
        isUneven("too short", table(row(11, 11), row(11)));
        isUneven("too long", table(row(11), row(11, 11)));
        isUneven("the third", table(row(11), row(11), row(12)));
        isUneven("the first", table(row(13), row(12), row(12)));
        isUneven("one between", table(row(12), row(13), row(12)));
        isUneven("too long from above", table(row(21, 11), row(11, 11)));
        isUneven("rows end before the third", table(row(21, 11), row(11), row(11)));
    }

    private static void reachedFromAbove() {
        isEven("the last place is from above", table(row(11, 21), row(11)));
        isEven("only from above", table(row(11, 21), row()));
        isEven("a cell behind one from above", table(row(11, 31, 11), row(11, 11), row(11, 11)));
        isEven("over two from above", table(row(11, 21, 21, 11), row(11, 11)));
        isEven("in a gap between two from above", table(row(21, 11, 21), row(11)));
        isEven("reach that ends", table(row(21, 11), row(11), row(12)));
        isEven("from two rows above", table(row(31, 13), row(23), row()));
        isUneven("reach that has ended", table(row(21, 11), row(11), row()));
        isUneven("no place is free before the end", table(row(21, 21), row(11)));
        isEven("columns from above", table(row(22, 11), row(11), row(11, 11, 11)));
        isUneven("fewer columns from above", table(row(21, 12), row(11), row(11, 11, 11)));
    }

    private static void taken() {
        isUneven("two columns where one is free", table(row(11, 21, 11), row(12, 11)));
        isUneven("though all rows end alike", table(row(11, 21), row(12)));
        isUneven("three columns with one taken between", table(row(21, 11, 21, 11), row(13)));
        isEven("two columns where two are free", table(row(11, 11, 21), row(12)));
        isEven("a later cell is no cell from above", table(row(12, 11), row(11, 12)));
    }

    private static void emptyRows() {
        isEven("all rows empty", table(row(), row()));
        isUneven("one empty row behind", table(row(11), row()));
        isUneven("one empty row before", table(row(), row(11)));
        isUneven("one empty row between", table(row(11), row(), row(11)));
        isEven("an empty row that is reached", table(row(21, 21), row(), row(11, 11)));
    }

    private static void wide() {
        int[] many = new int[57];
        Arrays.fill(many, 88);
        isEven("57 cells of eight columns", table(row(many)));
        int[] half = new int[28];
        Arrays.fill(half, 88);
        int[] others = new int[28];
        Arrays.fill(others, 88);
        isUneven("28 cells, and 28 behind them", table(row(half), row(others)));
        Arrays.fill(half, 18);
        isEven("28 cells, and 28 below them", table(row(half), row(others)));
        int[][] steps = new int[29][];
        for (int i = 0; i < steps.length; i++) {
            steps[i] = row(88);
        }
        isUneven("29 rows, each behind those above", table(steps));
    }

    private static void otherKids() {
        StructureRows x = table(row(11, 11), row(11, 11));
        x.element(1, 3);
        x.element(1, 12);
        x.element(2, 3);
        x.element(2, 12);
        x.element(2, 100);
        x.element(1, 9);
        x.content(1, 0, 0);
        x.content(2, 0, 1);
        isEven("kids that are no rows or cells", x);
        int part = x.element(2, 1);
        x.element(part, 9);
        isEven("cells that are no row's kids", x);
        x.map(100, 8);
        isUneven("a head by a map", x);
        StructureRows y = table(row(11, 11), row(11));
        isUneven("a cell is missing", y);
        y.element(0, 3);
        y.element(5, 9);
        isEven("a late cell of its row", y);
    }

    private static void severalTables() {
        StructureRows x = new StructureRows();
        addTable(x, row(21, 11), row(11, 11));
        int even = addTable(x, row(11), row(11));
        int third = addTable(x, row(11), row(11, 11));
        checks.faultsOf(5, "by numbers", x, "5:1:0", "5:" + third + ":0");
        x.span(3, 1, 1);
        checks.faultsOf(5, "less one", x, "5:" + third + ":0");
        x.span(even + 2, 1, 2);
        checks.faultsOf(5, "and one more", x, "5:" + even + ":0", "5:" + third + ":0");
        StructureRows y = new StructureRows();
        y.element(0, 12);
        int inner = y.element(1, 6);
        y.element(y.element(inner, 7), 9);
        y.element(inner, 7);
        checks.faultsOf(5, "in an artefact", y, "5:2:0");
    }

    private static void byMaps() {
        StructureRows x = new StructureRows();
        x.map(100, 6);
        x.map(101, 7);
        x.map(102, 8);
        int table = x.element(0, 100);
        int first = x.element(table, 101);
        int second = x.element(table, 7);
        x.element(first, 102);
        checks.faultsOf(5, "a table by maps", x, "5:1:0");
        x.element(second, 9);
        checks.faultsOf(5, "and even", x);
        x.map(100, 1);
        x.span(4, 1, 2);
        checks.faultsOf(5, "no table", x);
        x.map(100, 6);
        checks.faultsOf(5, "a table again", x, "5:1:0");
    }
}
