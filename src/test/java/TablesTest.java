import java.util.Arrays;

/** How tables are laid out, and which are uneven (fault 5). */
public final class TablesTest {
    private static final Checks checks = new Checks("TablesTest");

    public static void main(String[] args) {
        even();
        uneven();
        reachedFromAbove();
        taken();
        emptyRows();
        wide();
        otherKids();
        severalTables();
        byMaps();
        rowsOfAllSpans();
        columnsOfAllSpans();
        takenAtEachPlace();
        rowsThatDoNotCome();
        skippedFromAbove();
        kidsBetweenRows();
        tablesOneBehindTheOther();
        widestTables();
        checks.end();
    }

    /** A table of rows of cells, each cell ten times its rows, and its columns. */
    private static StructureRows table(int[]... rows) {
        StructureRows x = new StructureRows();
        addTable(x, rows);
        return x;
    }

    private static int addTable(StructureRows x, int[]... rows) {
        int table = x.element(0, 6);
        for (int[] cells : rows) {
            int row = x.element(table, 7);
            for (int i = 0; i < cells.length; i++) {
                x.span(x.element(row, i % 2 == 0 ? 8 : 9), cells[i] / 10, cells[i] % 10);
            }
        }
        return table;
    }

    private static int[] row(int... cells) {
        return cells;
    }

    private static void isEven(String what, StructureRows x) {
        checks.faultsOf(5, what, x);
    }

    private static void isUneven(String what, StructureRows x) {
        checks.faultsOf(5, what, x, "5:1:0");
    }

    private static void even() {
        isEven("no rows", table());
        isEven("one row", table(row(11, 11, 11)));
        isEven("three by two", table(row(11, 11, 11), row(11, 11, 11)));
        isEven("columns add up", table(row(12, 11), row(11, 12), row(13), row(11, 11, 11)));
        isEven("rows from above", table(row(21, 11), row(11), row(11, 11)));
        isEven("rows that do not come", table(row(81, 84), row()));
        isEven("rows that do not come, of one row", table(row(88)));
    }

    private static void uneven() {
        isUneven("too short", table(row(11, 11), row(11)));
        isUneven("too long", table(row(11), row(11, 11)));
        isUneven("the third", table(row(11), row(11), row(12)));
        isUneven("the first", table(row(13), row(12), row(12)));
        isUneven("one between", table(row(12), row(13), row(12)));
        isUneven("too long from above", table(row(21, 11), row(11, 11)));
        isUneven("rows end before the third", table(row(21, 11), row(11), row(11)));
    }

    private static void reachedFromAbove() {
        isEven("the last place is from above", table(row(11, 21), row(11)));
        isEven("only from above", table(row(11, 21), row()));
        isEven("a cell behind one from above", table(row(11, 31, 11), row(11, 11), row(11, 11)));
        isEven("over two from above", table(row(11, 21, 21, 11), row(11, 11)));
        isEven("in a gap between two from above", table(row(21, 11, 21), row(11)));
        isEven("reach that ends", table(row(21, 11), row(11), row(12)));
        isEven("from two rows above", table(row(31, 13), row(23), row()));
        isUneven("reach that has ended", table(row(21, 11), row(11), row()));
        isUneven("no place is free before the end", table(row(21, 21), row(11)));
        isEven("columns from above", table(row(22, 11), row(11), row(11, 11, 11)));
        isUneven("fewer columns from above", table(row(21, 12), row(11), row(11, 11, 11)));
    }

    private static void taken() {
        isUneven("two columns where one is free", table(row(11, 21, 11), row(12, 11)));
        isUneven("though all rows end alike", table(row(11, 21), row(12)));
        isUneven("three columns with one taken between", table(row(21, 11, 21, 11), row(13)));
        isEven("two columns where two are free", table(row(11, 11, 21), row(12)));
        isEven("a later cell is no cell from above", table(row(12, 11), row(11, 12)));
    }

    private static void emptyRows() {
        isEven("all rows empty", table(row(), row()));
        isUneven("one empty row behind", table(row(11), row()));
        isUneven("one empty row before", table(row(), row(11)));
        isUneven("one empty row between", table(row(11), row(), row(11)));
        isEven("an empty row that is reached", table(row(21, 21), row(), row(11, 11)));
    }

    private static void wide() {
        int[] many = new int[57];
        Arrays.fill(many, 88);
        isEven("57 cells of eight columns", table(row(many)));
        int[] half = new int[28];
        Arrays.fill(half, 88);
        int[] others = new int[28];
        Arrays.fill(others, 88);
        isUneven("28 cells, and 28 behind them", table(row(half), row(others)));
        Arrays.fill(half, 18);
        isEven("28 cells, and 28 below them", table(row(half), row(others)));
        int[][] steps = new int[29][];
        for (int i = 0; i < steps.length; i++) {
            steps[i] = row(88);
        }
        isUneven("29 rows, each behind those above", table(steps));
    }

    private static void otherKids() {
        StructureRows x = table(row(11, 11), row(11, 11));
        x.element(1, 3);
        x.element(1, 12);
        x.element(2, 3);
        x.element(2, 12);
        x.element(2, 100);
        x.element(1, 9);
        x.content(1, 0, 0);
        x.content(2, 0, 1);
        isEven("kids that are no rows or cells", x);
        int part = x.element(2, 1);
        x.element(part, 9);
        isEven("cells that are no row's kids", x);
        x.map(100, 8);
        isUneven("a head by a map", x);
        StructureRows y = table(row(11, 11), row(11));
        isUneven("a cell is missing", y);
        y.element(0, 3);
        y.element(5, 9);
        isEven("a late cell of its row", y);
    }

    private static void severalTables() {
        StructureRows x = new StructureRows();
        addTable(x, row(21, 11), row(11, 11));
        int even = addTable(x, row(11), row(11));
        int third = addTable(x, row(11), row(11, 11));
        checks.faultsOf(5, "by numbers", x, "5:1:0", "5:" + third + ":0");
        x.span(3, 1, 1);
        checks.faultsOf(5, "less one", x, "5:" + third + ":0");
        x.span(even + 2, 1, 2);
        checks.faultsOf(5, "and one more", x, "5:" + even + ":0", "5:" + third + ":0");
        StructureRows y = new StructureRows();
        y.element(0, 12);
        int inner = y.element(1, 6);
        y.element(y.element(inner, 7), 9);
        y.element(inner, 7);
        checks.faultsOf(5, "in an artefact", y, "5:2:0");
    }

    private static void byMaps() {
        StructureRows x = new StructureRows();
        x.map(100, 6);
        x.map(101, 7);
        x.map(102, 8);
        int table = x.element(0, 100);
        int first = x.element(table, 101);
        int second = x.element(table, 7);
        x.element(first, 102);
        checks.faultsOf(5, "a table by maps", x, "5:1:0");
        x.element(second, 9);
        checks.faultsOf(5, "and even", x);
        x.map(100, 1);
        x.span(4, 1, 2);
        checks.faultsOf(5, "no table", x);
        x.map(100, 6);
        checks.faultsOf(5, "a table again", x, "5:1:0");
    }

    private static int[] ones(int count) {
        int[] cells = new int[count];
        Arrays.fill(cells, 11);
        return cells;
    }

    /** "and takes as many columns from there, for as many rows": the last row that is reached, and the one behind. */
    private static void rowsOfAllSpans() {
        for (int span = 1; span <= 8; span++) {
            int[][] rows = new int[10][];
            for (int i = 0; i < rows.length; i++) {
                rows[i] = i == 0 ? row(10 * span + 1, 11) : i < span ? row(11) : row(11, 11);
            }
            isEven("reach of " + span + " rows", table(rows));
            int[] last = rows[span - 1];
            rows[span - 1] = span == 1 ? row(10 * span + 1, 11, 11) : row(11, 11);
            isUneven("a cell too many where " + span + " rows reach", table(rows));
            rows[span - 1] = last;
            rows[span] = row(11);
            isUneven("a cell too few behind " + span + " rows", table(rows));
        }
    }

    /** The same of columns; "likewise where rows end (the last place taken in it) differently": by one. */
    private static void columnsOfAllSpans() {
        for (int span = 1; span <= 8; span++) {
            int cell = 10 + span;
            isEven(span + " columns, as many below", table(row(cell), ones(span)));
            isEven(span + " columns, as many above", table(ones(span), row(cell)));
            isUneven(span + " columns, one more below", table(row(cell), ones(span + 1)));
            isUneven(span + " columns, one more above", table(ones(span + 1), row(cell)));
            isUneven(span + " columns, one less below", table(row(cell), ones(span - 1)));
            isUneven(span + " columns, one less above", table(ones(span - 1), row(cell)));
            isEven(span + " columns of two rows", table(row(20 + span, 11), row(11), ones(span + 1)));
            isUneven(span + " columns of two rows, one less", table(row(20 + span, 11), row(), ones(span + 1)));
        }
    }

    /** "Where one of them is taken by a cell from above, the table is UNEVEN": each of them, and the one behind. */
    private static void takenAtEachPlace() {
        for (int columns = 2; columns <= 8; columns++) {
            for (int taken = 1; taken <= columns; taken++) {
                int[] above = ones(columns + 1);
                above[taken] = 21;
                String what = columns + " columns, place " + taken + " taken";
                if (taken == columns) {
                    isEven(what, table(above, row(10 + columns)));
                } else {
                    isUneven(what, table(above, row(10 + columns, 11)));
                    isUneven(what + ", alike ends", table(Arrays.copyOf(above, columns), row(10 + columns)));
                }
            }
            int[] first = ones(columns + 1);
            first[0] = 21;
            isEven(columns + " columns behind the first", table(first, row(10 + columns)));
        }
    }

    /** "(also ones that do not come)": a reach beyond the last row is no fault. */
    private static void rowsThatDoNotCome() {
        for (int span = 1; span <= 8; span++) {
            int cell = 10 * span + 1;
            isEven("one row, cells of " + span, table(row(cell, 11)));
            isEven("two rows, the last of " + span, table(row(11, 11), row(cell, 11)));
            isEven("three rows, all of " + span + " in the last", table(row(12), row(11, 11), row(cell, cell)));
        }
    }

    /** "a cell is laid at the first place, from the one behind the cell before it on, that no cell .. reaches". */
    private static void skippedFromAbove() {
        for (int first = 0; first < 5; first++) {
            for (int second = first + 1; second < 6; second++) {
                int[] above = ones(6);
                above[first] = 21;
                above[second] = 31;
                String what = "reached at " + first + ", " + second;
                isEven(what, table(above, ones(4), ones(5), ones(6)));
                isUneven(what + ", one too many", table(above, ones(5), ones(5), ones(6)));
                StructureRows gap = table(above, ones(4), ones(4), ones(6));
                if (second == 5) {
                    isEven(what + ", a gap before the reached end", gap);
                } else {
                    isUneven(what + ", one too few behind it", gap);
                }
                isUneven(what + ", one too few at the end", table(above, ones(4), ones(5), ones(5)));
            }
        }
        isEven("the widest gap between two", table(row(21, 18, 21), row(18)));
        isUneven("one column more than the gap", table(row(21, 17, 21), row(18)));
        isUneven("a gap up to the end", table(row(21, 12, 11), row(11)));
        isEven("a gap before a reached end", table(row(11, 11, 21), row(11)));
    }

    /** "ROWS are a table's kids that are rows, CELLS a row's kids that are heads or cells": others do not count. */
    private static void kidsBetweenRows() {
        for (int role : new int[] {1, 3, 6, 8, 9, 12, 119}) {
            StructureRows x = new StructureRows();
            x.element(0, 6);
            x.content(1, 0, 0);
            int first = x.element(1, 7);
            int between = x.element(1, role);
            x.element(between, 9);
            x.content(1, 0, 1);
            int second = x.element(1, 7);
            x.span(x.element(first, 9), 2, 1);
            x.element(first, role == 9 || role == 8 ? 3 : role);
            x.content(first, 0, 2);
            x.element(first, 8);
            x.element(second, 9);
            checks.faultsOf(5, "reach over a kid of role " + role, x, new String[0]);
            x.element(second, 9);
            checks.faultsOf(5, "one cell more, over a kid of role " + role, x, "5:1:0");
        }
    }

    private static void tablesOneBehindTheOther() {
        StructureRows x = new StructureRows();
        addTable(x, row(88, 88), row(18));
        int even = addTable(x, row(11), row(11));
        int empty = addTable(x);
        int one = addTable(x, row(11));
        checks.faultsOf(5, "nothing of the table before is left", x, "5:1:0");
        x.span(even + 2, 2, 1);
        checks.faultsOf(5, "each table by itself", x, "5:1:0", "5:" + even + ":0");
        x.element(one, 7);
        x.element(empty, 7);
        checks.faultsOf(5, "a row without cells in one with cells", x, "5:1:0", "5:" + even + ":0", "5:" + one + ":0");
    }

    /** Sixty elements at most, spans of eight: the widest row, the most rows, the widest reach. */
    private static void widestTables() {
        int[] eights = new int[56];
        Arrays.fill(eights, 28);
        isEven("56 cells of eight columns, and a row that they reach", table(row(eights), row()));
        isUneven("the same, and a cell behind them", table(row(Arrays.copyOf(eights, 55)), row(11)));
        int[][] rows = new int[58][];
        Arrays.fill(rows, row());
        isEven("58 rows without cells", table(rows));
        rows[0] = row(81);
        isUneven("57 rows, the first with a cell", table(Arrays.copyOf(rows, 57)));
        isEven("eight rows with a cell that reaches them", table(Arrays.copyOf(rows, 8)));
        isUneven("nine rows with a cell that reaches eight", table(Arrays.copyOf(rows, 9)));
        Arrays.fill(rows, row(11));
        isEven("29 rows of a cell", table(Arrays.copyOf(rows, 29)));
        rows[28] = row(12);
        isUneven("29 rows, the last of two columns", table(Arrays.copyOf(rows, 29)));
    }
}
