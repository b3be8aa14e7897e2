import java.util.Arrays;
import java.util.NoSuchElementException;

/** The structure of a document, as ../shared/DOC.md tells it: elements, marked parts, their walk and their faults. */
public final class StructureRows {
    private static final int NONE = -1;

    private static final int ELEMENTS_MOST = 60;
    private static final int PARTS_MOST = 100;
    private static final int REPEATS_MOST = 40;
    private static final int PAGES = 10;
    private static final int MARKS = 20;
    private static final int CODES = PAGES * MARKS;
    private static final int LEVEL_MOST = 6;
    private static final int SPAN_MOST = 8;

    private static final int DOCUMENT = 0;
    private static final int HEADING = 2;
    private static final int LIST = 4;
    private static final int ITEM = 5;
    private static final int TABLE = 6;
    private static final int ROW = 7;
    private static final int HEAD = 8;
    private static final int CELL = 9;
    private static final int FIGURE = 10;
    private static final int ARTEFACT = 12;
    private static final int OWN_FIRST = 100;
    private static final int OWN_COUNT = 20;

    private static final int NO_STANDARD = 1;
    private static final int NO_LEVEL = 2;
    private static final int LEVEL_SKIPPED = 3;
    private static final int MISPLACED = 4;
    private static final int UNEVEN = 5;
    private static final int NO_WORDS = 6;
    private static final int NO_KIDS = 7;
    private static final int TOLD_AGAIN = 8;
    private static final int UNTAGGED = 9;
    private static final int OUT_OF_ORDER = 10;

    private final Roles roles = new Roles();
    private final Tree tree = new Tree(roles);
    private final Trail trail = new Trail(tree);
    private final Pages pages = new Pages();
    private final Headings headings = new Headings();
    private final Grid grid = new Grid();
    private final Faults faults = new Faults();

    private final int[] levels = new int[ELEMENTS_MOST];
    private final boolean[] worded = new boolean[ELEMENTS_MOST];
    private final int[] spanRows = new int[ELEMENTS_MOST];
    private final int[] spanColumns = new int[ELEMENTS_MOST];

    private final int[] repeatElements = new int[REPEATS_MOST];
    private final int[] repeatCodes = new int[REPEATS_MOST];
    private int repeats = 0;

    private final int[] looseCodes = new int[CODES];
    private int loose = 0;

    private final int[] latestPlaces = new int[PAGES];

    public StructureRows() {
        Arrays.fill(spanRows, 1);
        Arrays.fill(spanColumns, 1);
    }

    public int element(int parent, int role)
            throws NoSuchElementException, IllegalArgumentException, UnsupportedOperationException {
        needElement(parent);
        if (role == DOCUMENT || !Roles.isRole(role)) {
            throw new IllegalArgumentException("no role for an element");
        }
        if (tree.elements >= ELEMENTS_MOST) {
            throw new UnsupportedOperationException("all elements are there");
        }
        return tree.addElement(parent, role);
    }

    public int map(int role, int to) throws IllegalArgumentException {
        if (!Roles.isOwn(role) || !Roles.isRole(to)) {
            throw new IllegalArgumentException("no own role, or no role to map it to");
        }
        if (roles.leads(to, role)) {
            return 0;
        }
        roles.lead(role, to);
        return 1;
    }

    public int content(int element, int page, int mark)
            throws NoSuchElementException, IllegalArgumentException, UnsupportedOperationException {
        needElement(element);
        int code = needCode(page, mark);
        if (tree.holderOf(code) != NONE) {
            keepRepeat(element, code);
            return 0;
        }
        if (tree.parts >= PARTS_MOST) {
            throw new UnsupportedOperationException("all marked parts are there");
        }
        tree.addPart(element, code);
        return 1;
    }

    public int shows(int page, int mark) throws IllegalArgumentException {
        needCode(page, mark);
        return pages.show(page, mark);
    }

    public int walk() {
        trail.follow();
        return trail.parts;
    }

    public int at(int i, int what) throws IndexOutOfBoundsException {
        needWhat(what);
        trail.follow();
        if (i < 0 || i >= trail.parts) {
            throw new IndexOutOfBoundsException("the walk has no such part");
        }
        int code = trail.partCodes[i];
        return what == 0 ? code / MARKS : what == 1 ? code % MARKS : tree.holderOf(code);
    }

    public int parent(int page, int mark) throws IllegalArgumentException {
        return tree.holderOf(needCode(page, mark));
    }

    public int check() {
        faults.count = 0;
        findElementsWithoutStandard();
        findHeadingsWithoutLevel();
        findSkippedLevels();
        findMisplaced();
        findUnevenTables();
        findFiguresWithoutWords();
        findElementsWithoutKids();
        findRepeats();
        findUntagged();
        findOutOfOrder();
        return faults.count;
    }

    public int fault(int i, int what) throws IndexOutOfBoundsException {
        needWhat(what);
        if (i < 0 || i >= faults.count) {
            throw new IndexOutOfBoundsException("the latest check has no such fault");
        }
        return what == 0 ? faults.kinds[i] : what == 1 ? faults.elements[i] : faults.numbers[i];
    }

    public int heading(int element, int level) throws NoSuchElementException, IllegalArgumentException {
        needElement(element);
        if (level < 1 || level > LEVEL_MOST) {
            throw new IllegalArgumentException("no level");
        }
        int before = levels[element];
        levels[element] = level;
        return before;
    }

    public int words(int element, boolean has) throws NoSuchElementException {
        needElement(element);
        int before = worded[element] ? 1 : 0;
        worded[element] = has;
        return before;
    }

    public int span(int cell, int rows, int columns) throws NoSuchElementException, IllegalArgumentException {
        needElement(cell);
        if (rows < 1 || rows > SPAN_MOST || columns < 1 || columns > SPAN_MOST) {
            throw new IllegalArgumentException("no span");
        }
        int before = 10 * spanRows[cell] + spanColumns[cell];
        spanRows[cell] = rows;
        spanColumns[cell] = columns;
        return before;
    }

    public int outline(int i, int what) throws IndexOutOfBoundsException {
        gatherHeadings();
        if (i == -1) {
            return headings.count;
        }
        needWhat(what);
        if (i < 0 || i >= headings.count) {
            throw new IndexOutOfBoundsException("the outline has no such heading");
        }
        return what == 0 ? headings.elements[i] : what == 1 ? headings.depths[i] : headings.levels[i];
    }

    public int untagged(int i) throws IndexOutOfBoundsException {
        gatherLoose();
        if (i == -1) {
            return loose;
        }
        if (i < 0 || i >= loose) {
            throw new IndexOutOfBoundsException("no such untagged mark");
        }
        return looseCodes[i];
    }

    private void needElement(int element) {
        if (element < 0 || element >= tree.elements) {
            throw new NoSuchElementException("no such element");
        }
    }

    private static int needCode(int page, int mark) {
        if (page < 0 || page >= PAGES || mark < 0 || mark >= MARKS) {
            throw new IllegalArgumentException("no such page or mark");
        }
        return page * MARKS + mark;
    }

    private static void needWhat(int what) {
        if (what < 0 || what > 2) {
            throw new IndexOutOfBoundsException("0, 1 or 2 is asked for");
        }
    }

    private void keepRepeat(int element, int code) {
        if (repeats < REPEATS_MOST) {
            repeatElements[repeats] = element;
            repeatCodes[repeats] = code;
            repeats++;
        }
    }

    private void gatherHeadings() {
        trail.follow();
        headings.count = 0;
        for (int i = 0; i < trail.elements; i++) {
            int element = trail.elementNumbers[i];
            if (levels[element] != 0 && tree.standardOf(element) == HEADING) {
                headings.append(element, levels[element]);
            }
        }
    }

    private void gatherLoose() {
        loose = 0;
        for (int page = 0; page < PAGES; page++) {
            for (int place = 0; place < pages.shownBy(page); place++) {
                int code = pages.codeAt(page, place);
                if (loose < CODES && tree.holderOf(code) == NONE) {
                    looseCodes[loose] = code;
                    loose++;
                }
            }
        }
    }

    private void findElementsWithoutStandard() {
        for (int element = 0; element < tree.elements; element++) {
            if (tree.standardOf(element) == NONE) {
                faults.append(NO_STANDARD, element, 0);
            }
        }
    }

    private void findHeadingsWithoutLevel() {
        for (int element = 0; element < tree.elements; element++) {
            if (tree.standardOf(element) == HEADING && levels[element] == 0) {
                faults.append(NO_LEVEL, element, 0);
            }
        }
    }

    private void findSkippedLevels() {
        gatherHeadings();
        int before = 0;
        for (int i = 0; i < headings.count; i++) {
            int level = headings.levels[i];
            if (level > before + 1) {
                faults.append(LEVEL_SKIPPED, headings.elements[i], level);
            }
            before = level;
        }
    }

    private void findMisplaced() {
        for (int element = 1; element < tree.elements; element++) {
            if (isMisplaced(tree.standardOf(element), tree.standardOf(tree.parentOf(element)))) {
                faults.append(MISPLACED, element, 0);
            }
        }
    }

    private static boolean isMisplaced(int role, int parentRole) {
        int due = neededParent(role);
        if (due != NONE && parentRole != due) {
            return true;
        }
        boolean choosy = parentRole == LIST || parentRole == TABLE || parentRole == ROW;
        return choosy && role != ARTEFACT && due != parentRole;
    }

    private static int neededParent(int role) {
        if (role == ITEM) {
            return LIST;
        }
        if (role == ROW) {
            return TABLE;
        }
        return isCell(role) ? ROW : NONE;
    }

    private static boolean isCell(int role) {
        return role == HEAD || role == CELL;
    }

    private void findUnevenTables() {
        for (int element = 0; element < tree.elements; element++) {
            if (tree.standardOf(element) == TABLE && isUneven(element)) {
                faults.append(UNEVEN, element, 0);
            }
        }
    }

    // Kids that are elements stand in the order of their numbers, since a new one goes behind those that are there.
    private boolean isUneven(int table) {
        grid.clear();
        for (int row = table + 1; row < tree.elements; row++) {
            if (tree.parentOf(row) == table && tree.standardOf(row) == ROW) {
                grid.beginRow();
                layCells(row);
                grid.endRow();
            }
        }
        return grid.uneven;
    }

    private void layCells(int row) {
        for (int cell = row + 1; cell < tree.elements; cell++) {
            if (tree.parentOf(cell) == row && isCell(tree.standardOf(cell))) {
                grid.lay(spanRows[cell], spanColumns[cell]);
            }
        }
    }

    private void findFiguresWithoutWords() {
        for (int element = 0; element < tree.elements; element++) {
            if (tree.standardOf(element) == FIGURE && !worded[element]) {
                faults.append(NO_WORDS, element, 0);
            }
        }
    }

    private void findElementsWithoutKids() {
        for (int element = 1; element < tree.elements; element++) {
            if (!tree.hasKids(element) && tree.standardOf(element) != FIGURE) {
                faults.append(NO_KIDS, element, 0);
            }
        }
    }

    private void findRepeats() {
        for (int i = 0; i < repeats; i++) {
            faults.append(TOLD_AGAIN, repeatElements[i], repeatCodes[i]);
        }
    }

    private void findUntagged() {
        gatherLoose();
        for (int i = 0; i < loose; i++) {
            faults.append(UNTAGGED, NONE, looseCodes[i]);
        }
    }

    private void findOutOfOrder() {
        trail.follow();
        Arrays.fill(latestPlaces, NONE);
        for (int i = 0; i < trail.parts; i++) {
            int code = trail.partCodes[i];
            int page = code / MARKS;
            int place = pages.placeOf(code);
            if (place != NONE) {
                if (place < latestPlaces[page]) {
                    faults.append(OUT_OF_ORDER, tree.holderOf(code), code);
                }
                latestPlaces[page] = place;
            }
        }
    }

    /** Which roles there are, and where the maps of the own ones lead. */
    private static final class Roles {
        private final int[] targets = new int[OWN_COUNT];

        Roles() {
            Arrays.fill(targets, NONE);
        }

        static boolean isOwn(int role) {
            return role >= OWN_FIRST && role < OWN_FIRST + OWN_COUNT;
        }

        static boolean isRole(int role) {
            return isOwn(role) || role >= DOCUMENT && role <= ARTEFACT;
        }

        void lead(int role, int to) {
            if (isOwn(role)) {
                targets[role - OWN_FIRST] = to;
            }
        }

        // No map leads back to its role, so a way has at most as many steps as there are own roles.
        boolean leads(int from, int role) {
            int reached = from;
            for (int step = 0; step < OWN_COUNT && reached != role && isOwn(reached); step++) {
                reached = targets[reached - OWN_FIRST];
            }
            return reached == role;
        }

        int standardOf(int role) {
            int reached = role;
            for (int step = 0; step < OWN_COUNT && isOwn(reached); step++) {
                reached = targets[reached - OWN_FIRST];
            }
            return isOwn(reached) ? NONE : reached;
        }
    }

    /** Elements and marked parts as nodes: an element's node is its number, a marked part's lies behind them all. */
    private static final class Tree {
        private static final int NODES = ELEMENTS_MOST + CODES;

        private final Roles roles;
        private final int[] elementRoles = new int[ELEMENTS_MOST];
        private final int[] firstKids = new int[ELEMENTS_MOST];
        private final int[] lastKids = new int[ELEMENTS_MOST];
        private final int[] parents = new int[NODES];
        private final int[] nextKids = new int[NODES];
        private int elements = 1;
        private int parts = 0;

        Tree(Roles roles) {
            this.roles = roles;
            Arrays.fill(firstKids, NONE);
            Arrays.fill(lastKids, NONE);
            Arrays.fill(parents, NONE);
            Arrays.fill(nextKids, NONE);
        }

        int addElement(int parent, int role) {
            int element = elements;
            if (element < ELEMENTS_MOST) {
                elementRoles[element] = role;
                elements++;
                addKid(parent, element);
            }
            return element;
        }

        void addPart(int element, int code) {
            parts++;
            addKid(element, ELEMENTS_MOST + code);
        }

        private void addKid(int parent, int node) {
            parents[node] = parent;
            int last = lastKids[parent];
            if (last == NONE) {
                firstKids[parent] = node;
            } else {
                nextKids[last] = node;
            }
            lastKids[parent] = node;
        }

        int parentOf(int element) {
            return parents[element];
        }

        int holderOf(int code) {
            return parents[ELEMENTS_MOST + code];
        }

        boolean hasKids(int element) {
            return firstKids[element] != NONE;
        }

        int standardOf(int element) {
            return element < 0 || element >= elements ? NONE : roles.standardOf(elementRoles[element]);
        }

        static boolean isElement(int node) {
            return node < ELEMENTS_MOST;
        }

        static int codeOf(int node) {
            return node - ELEMENTS_MOST;
        }

        int firstIn(int element) {
            return hasKids(element) ? firstKids[element] : firstBehind(element);
        }

        int firstBehind(int node) {
            int open = node;
            for (int step = 0; step < NODES && open != NONE && nextKids[open] == NONE; step++) {
                open = parents[open];
            }
            return open == NONE ? NONE : nextKids[open];
        }
    }

    /** What the walk comes to: its elements and its marked parts, each in order. */
    private static final class Trail {
        private final Tree tree;
        private final int[] elementNumbers = new int[ELEMENTS_MOST];
        private final int[] partCodes = new int[PARTS_MOST];
        private int elements = 0;
        private int parts = 0;

        Trail(Tree tree) {
            this.tree = tree;
        }

        void follow() {
            elements = 0;
            parts = 0;
            int node = 0;
            for (int step = 0; step < ELEMENTS_MOST + PARTS_MOST && node != NONE; step++) {
                node = Tree.isElement(node) ? passElement(node) : passPart(node);
            }
        }

        private int passElement(int element) {
            if (tree.standardOf(element) == ARTEFACT) {
                return tree.firstBehind(element);
            }
            if (elements < ELEMENTS_MOST) {
                elementNumbers[elements] = element;
                elements++;
            }
            return tree.firstIn(element);
        }

        private int passPart(int node) {
            if (parts < PARTS_MOST) {
                partCodes[parts] = Tree.codeOf(node);
                parts++;
            }
            return tree.firstBehind(node);
        }
    }

    /** The marks that each page shows, in their order. */
    private static final class Pages {
        private final int[] codes = new int[CODES];
        private final int[] places = new int[CODES];
        private final int[] counts = new int[PAGES];

        Pages() {
            Arrays.fill(places, NONE);
        }

        int show(int page, int mark) {
            int first = page * MARKS;
            int place = counts[page];
            if (places[first + mark] != NONE || place >= MARKS) {
                return 0;
            }
            codes[first + place] = first + mark;
            places[first + mark] = place;
            counts[page]++;
            return counts[page];
        }

        int shownBy(int page) {
            return counts[page];
        }

        int codeAt(int page, int place) {
            return codes[page * MARKS + place];
        }

        int placeOf(int code) {
            return places[code];
        }
    }

    /** The headings of an outline, with the depth that follows from the levels before each. */
    private static final class Headings {
        private final int[] elements = new int[ELEMENTS_MOST];
        private final int[] levels = new int[ELEMENTS_MOST];
        private final int[] depths = new int[ELEMENTS_MOST];
        private int count = 0;

        void append(int element, int level) {
            if (count < ELEMENTS_MOST) {
                elements[count] = element;
                levels[count] = level;
                depths[count] = depthBehind(level);
                count++;
            }
        }

        private int depthBehind(int level) {
            for (int i = count - 1; i >= 0; i--) {
                if (levels[i] < level) {
                    return depths[i] + 1;
                }
            }
            return 0;
        }
    }

    /** A table as it is laid out, row by row; made once and cleared for each table. */
    private static final class Grid {
        private static final int PLACES_MOST = ELEMENTS_MOST * SPAN_MOST;

        /** For each place the first row that the cells laid there so far do not reach. */
        private final int[] freeFrom = new int[PLACES_MOST];
        private int used = 0;
        private int row = 0;
        private int place = 0;
        private int width = NONE;
        private boolean uneven = false;

        void clear() {
            Arrays.fill(freeFrom, 0);
            used = 0;
            row = 0;
            width = NONE;
            uneven = false;
        }

        void beginRow() {
            place = 0;
        }

        // Places behind the cell before are taken from above alone, so what is taken there needs no owner.
        void lay(int rows, int columns) {
            while (place < PLACES_MOST && freeFrom[place] > row) {
                place++;
            }
            for (int column = 0; column < columns && place < PLACES_MOST; column++) {
                uneven = uneven || freeFrom[place] > row;
                freeFrom[place] = Math.max(freeFrom[place], row + rows);
                place++;
            }
            used = Math.max(used, place);
        }

        void endRow() {
            int end = used;
            while (end > 0 && freeFrom[end - 1] <= row) {
                end--;
            }
            uneven = uneven || width != NONE && width != end;
            width = end;
            row++;
        }
    }

    /** The faults of the latest check. */
    private static final class Faults {
        /** Seven kinds tell of an element, once each; the others of repeats, shown marks and marked parts. */
        private static final int FAULTS_MOST = 7 * ELEMENTS_MOST + REPEATS_MOST + CODES + PARTS_MOST;

        private final int[] kinds = new int[FAULTS_MOST];
        private final int[] elements = new int[FAULTS_MOST];
        private final int[] numbers = new int[FAULTS_MOST];
        private int count = 0;

        void append(int kind, int element, int number) {
            if (count < FAULTS_MOST) {
                kinds[count] = kind;
                elements[count] = element;
                numbers[count] = number;
                count++;
            }
        }
    }
}
