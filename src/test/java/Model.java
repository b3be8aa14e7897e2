import java.util.ArrayList;
import java.util.HashMap;
import java.util.HashSet;
import java.util.List;
import java.util.Map;
import java.util.NoSuchElementException;
import java.util.Set;

/** The document once more, in another way (objects, recursion, sets of places), to hold the class against. */
final class Model {
    private static final class Node {
        int number = -1;
        int role;
        int code = -1;
        Node up;
        final List<Node> kids = new ArrayList<>();
        int level = 0;
        boolean words = false;
        int rows = 1;
        int columns = 1;
    }

    private final List<Node> nodes = new ArrayList<>();
    private final Map<Integer, Integer> maps = new HashMap<>();
    private final Map<Integer, Node> parts = new HashMap<>();
    private final List<int[]> repeats = new ArrayList<>();
    private final List<List<Integer>> shown = new ArrayList<>();
    private List<int[]> latest = new ArrayList<>();

    Model() {
        nodes.add(new Node());
        nodes.get(0).number = 0;
        for (int page = 0; page < 10; page++) {
            shown.add(new ArrayList<>());
        }
    }

    private Node node(int element) {
        if (element < 0 || element >= nodes.size()) {
            throw new NoSuchElementException();
        }
        return nodes.get(element);
    }

    private static void need(boolean right) {
        if (!right) {
            throw new IllegalArgumentException();
        }
    }

    private static void needIndex(boolean right) {
        if (!right) {
            throw new IndexOutOfBoundsException();
        }
    }

    private static boolean within(int value, int low, int high) {
        return value >= low && value <= high;
    }

    private static boolean role(int role) {
        return within(role, 0, 12) || within(role, 100, 119);
    }

    int elements() {
        return nodes.size();
    }

    int element(int parent, int role) {
        Node up = node(parent);
        need(role != 0 && role(role));
        if (nodes.size() == 60) {
            throw new UnsupportedOperationException();
        }
        Node kid = new Node();
        kid.number = nodes.size();
        kid.role = role;
        kid.up = up;
        up.kids.add(kid);
        nodes.add(kid);
        return kid.number;
    }

    int map(int role, int to) {
        need(within(role, 100, 119) && role(to));
        for (Integer way = to; way != null; way = maps.get(way)) {
            if (way == role) {
                return 0;
            }
        }
        maps.put(role, to);
        return 1;
    }

    int content(int element, int page, int mark) {
        Node up = node(element);
        need(within(page, 0, 9) && within(mark, 0, 19));
        int code = 20 * page + mark;
        if (parts.containsKey(code)) {
            if (repeats.size() < 40) {
                repeats.add(new int[] {8, element, code});
            }
            return 0;
        }
        if (parts.size() == 100) {
            throw new UnsupportedOperationException();
        }
        Node kid = new Node();
        kid.code = code;
        kid.up = up;
        up.kids.add(kid);
        parts.put(code, kid);
        return 1;
    }

    int shows(int page, int mark) {
        need(within(page, 0, 9) && within(mark, 0, 19));
        if (shown.get(page).contains(mark)) {
            return 0;
        }
        shown.get(page).add(mark);
        return shown.get(page).size();
    }

    private int standard(Node node) {
        Integer way = node.role;
        while (way != null && way >= 100) {
            way = maps.get(way);
        }
        return way == null ? -1 : way;
    }

    private void walkInto(Node node, List<Node> walked) {
        if (node.code < 0 && standard(node) == 12) {
            return;
        }
        walked.add(node);
        for (Node kid : node.kids) {
            walkInto(kid, walked);
        }
    }

    private List<Node> walked(boolean asParts) {
        List<Node> all = new ArrayList<>();
        walkInto(nodes.get(0), all);
        all.removeIf(n -> n.code >= 0 != asParts);
        return all;
    }

    int walk() {
        return walked(true).size();
    }

    int at(int i, int what) {
        List<Node> all = walked(true);
        needIndex(within(i, 0, all.size() - 1) && within(what, 0, 2));
        Node part = all.get(i);
        return new int[] {part.code / 20, part.code % 20, part.up.number}[what];
    }

    int parent(int page, int mark) {
        need(within(page, 0, 9) && within(mark, 0, 19));
        Node part = parts.get(20 * page + mark);
        return part == null ? -1 : part.up.number;
    }

    int heading(int element, int level) {
        Node node = node(element);
        need(within(level, 1, 6));
        int before = node.level;
        node.level = level;
        return before;
    }

    int words(int element, boolean has) {
        Node node = node(element);
        int before = node.words ? 1 : 0;
        node.words = has;
        return before;
    }

    int span(int cell, int rows, int columns) {
        Node node = node(cell);
        need(within(rows, 1, 8) && within(columns, 1, 8));
        int before = 10 * node.rows + node.columns;
        node.rows = rows;
        node.columns = columns;
        return before;
    }

    private List<Node> leveled() {
        List<Node> all = walked(false);
        all.removeIf(n -> standard(n) != 2 || n.level == 0);
        return all;
    }

    int outline(int i, int what) {
        List<Node> all = leveled();
        if (i == -1) {
            return all.size();
        }
        needIndex(within(i, 0, all.size() - 1) && within(what, 0, 2));
        int depth = 0;
        int level = all.get(i).level;
        for (int k = i - 1; k >= 0; k--) {
            if (all.get(k).level < level) {
                depth++;
                level = all.get(k).level;
            }
        }
        return new int[] {all.get(i).number, depth, all.get(i).level}[what];
    }

    private List<Integer> loose() {
        List<Integer> codes = new ArrayList<>();
        for (int page = 0; page < 10; page++) {
            for (int mark : shown.get(page)) {
                if (!parts.containsKey(20 * page + mark)) {
                    codes.add(20 * page + mark);
                }
            }
        }
        return codes;
    }

    int untagged(int i) {
        List<Integer> codes = loose();
        if (i == -1) {
            return codes.size();
        }
        needIndex(within(i, 0, codes.size() - 1));
        return codes.get(i);
    }

    private boolean misplaced(Node node) {
        int role = standard(node);
        int up = node.up == null ? -1 : standard(node.up);
        boolean cell = role == 8 || role == 9;
        boolean artefact = role == 12;
        return role == 5 && up != 4 || up == 4 && role != 5 && !artefact
                || role == 7 && up != 6 || up == 6 && role != 7 && !artefact
                || cell && up != 7 || up == 7 && !cell && !artefact;
    }

    private boolean uneven(Node table) {
        Set<String> taken = new HashSet<>();
        Set<Integer> ends = new HashSet<>();
        boolean clash = false;
        int row = 0;
        for (Node line : table.kids) {
            if (line.code >= 0 || standard(line) != 7) {
                continue;
            }
            Set<String> above = new HashSet<>(taken);
            int place = 0;
            for (Node cell : line.kids) {
                if (cell.code >= 0 || standard(cell) != 8 && standard(cell) != 9) {
                    continue;
                }
                while (above.contains(row + " " + place)) {
                    place++;
                }
                for (int c = place; c < place + cell.columns; c++) {
                    for (int r = row; r < row + cell.rows; r++) {
                        clash |= above.contains(r + " " + c);
                        taken.add(r + " " + c);
                    }
                }
                place += cell.columns;
            }
            int end = -1;
            for (int c = 0; c < 500; c++) {
                end = taken.contains(row + " " + c) ? c : end;
            }
            ends.add(end);
            row++;
        }
        return clash || ends.size() > 1;
    }

    private boolean has(int kind, Node node) {
        int role = standard(node);
        switch (kind) {
            case 1: return role == -1;
            case 2: return role == 2 && node.level == 0;
            case 4: return misplaced(node);
            case 5: return role == 6 && uneven(node);
            case 6: return role == 10 && !node.words;
            case 7: return node.kids.isEmpty() && role != 10 && node.number != 0;
            default: return false;
        }
    }

    private void addSkipped(List<int[]> found) {
        int before = 0;
        for (Node node : leveled()) {
            if (node.level - before > 1) {
                found.add(new int[] {3, node.number, node.level});
            }
            before = node.level;
        }
    }

    private void addOutOfOrder(List<int[]> found) {
        List<Node> all = walked(true);
        all.removeIf(n -> !shown.get(n.code / 20).contains(n.code % 20));
        for (int i = 0; i < all.size(); i++) {
            int code = all.get(i).code;
            List<Integer> order = shown.get(code / 20);
            for (int k = i - 1; k >= 0; k--) {
                int other = all.get(k).code;
                if (other / 20 == code / 20) {
                    if (order.indexOf(code % 20) < order.indexOf(other % 20)) {
                        found.add(new int[] {10, all.get(i).up.number, code});
                    }
                    break;
                }
            }
        }
    }

    int check() {
        List<int[]> found = new ArrayList<>();
        for (int kind = 1; kind <= 7; kind++) {
            if (kind == 3) {
                addSkipped(found);
            }
            for (Node node : nodes) {
                if (has(kind, node)) {
                    found.add(new int[] {kind, node.number, 0});
                }
            }
        }
        found.addAll(repeats);
        for (int code : loose()) {
            found.add(new int[] {9, -1, code});
        }
        addOutOfOrder(found);
        latest = found;
        return found.size();
    }

    int fault(int i, int what) {
        needIndex(within(i, 0, latest.size() - 1) && within(what, 0, 2));
        return latest.get(i)[what];
    }
}
