public final class ExtentFileTree {
    public static final int BAD = -1;
    public static final int FULL = -2;
    public static final int NOTHING = -3;
    public static final int WRONG = -4;
    public static final int THERE = -5;
    public static final int BUSY = -6;
    public static final int CIRCLE = -7;
    public static final int OK = 0;

    private static final int NONE = -1;
    private static final int TOP = 0;
    private static final int SAME_NODE = -1;
    private static final int LAST_NAME = 99;

    private static final int FREE = 0;
    private static final int DIRECTORY = 1;
    private static final int FILE = 2;

    private static final int BEFORE_LAST_WRITE = 0;
    private static final int AFTER_LAST_WRITE = 1;
    private static final int AMID_LAST_WRITE = 2;

    private static final int HANDLES = 4;
    private static final int NODES = 16;
    private static final int BLOCKS_OF_FILE = 8;
    private static final int CELLS_OF_FILE = 32;
    private static final int CELLS_OF_BLOCK = 4;
    private static final int COPIES = 24;
    // NODES * BLOCKS_OF_FILE: every node has room for blocks, so that a node's number alone tells where they are.
    private static final int PLACES = 128;
    // COPIES * CELLS_OF_BLOCK
    private static final int CELLS_OF_COPIES = 96;

    private final int[] kindOf = new int[NODES];
    private final int[] parentOf = new int[NODES];
    private final int[] nameOf = new int[NODES];
    private final int[] copyAt = new int[PLACES];

    private final int[] savedKindOf = new int[NODES];
    private final int[] savedParentOf = new int[NODES];
    private final int[] savedNameOf = new int[NODES];
    private final int[] savedCopyAt = new int[PLACES];

    // Both states share the cells: a copy in the saved state is never written, so it needs no second place.
    private final int[] cellOf = new int[CELLS_OF_COPIES];

    private final int[] nodeOf = new int[HANDLES];
    private int savings = 0;

    public ExtentFileTree() {
        for (int place = 0; place < PLACES; place++) {
            copyAt[place] = NONE;
        }
        for (int node = 0; node < NODES; node++) {
            parentOf[node] = NONE;
        }
        kindOf[TOP] = DIRECTORY;
        storePresent();
        nodeOf[0] = TOP;
        dropHandles();
    }

    public int open(int h, int d, int name) {
        if (!isFreeHandle(h) || !isHandle(d) || (name != SAME_NODE && !isName(name))) {
            return BAD;
        }
        int found = nodeOf[d];
        if (found == NONE) {
            return NOTHING;
        }
        if (name != SAME_NODE) {
            if (kindOf[found] != DIRECTORY) {
                return WRONG;
            }
            found = entryOf(found, name);
            if (found == NONE) {
                return NOTHING;
            }
        }
        nodeOf[h] = found;
        return OK;
    }

    public int make(int h, int d, int name, boolean directory) {
        if (!isFreeHandle(h) || !isHandle(d) || !isName(name)) {
            return BAD;
        }
        int fault = directoryFault(d);
        if (fault != OK) {
            return fault;
        }
        int parent = nodeOf[d];
        if (entryOf(parent, name) != NONE) {
            return THERE;
        }
        int node = freeNode();
        if (node == NONE) {
            return FULL;
        }
        kindOf[node] = directory ? DIRECTORY : FILE;
        parentOf[node] = parent;
        nameOf[node] = name;
        nodeOf[h] = node;
        return OK;
    }

    public int erase(int d, int name) {
        if (!isHandle(d) || !isName(name)) {
            return BAD;
        }
        int fault = directoryFault(d);
        if (fault != OK) {
            return fault;
        }
        int node = entryOf(nodeOf[d], name);
        if (node == NONE) {
            return NOTHING;
        }
        if (hasHandle(node)) {
            return BUSY;
        }
        if (countEntries(node) > 0) {
            return FULL;
        }
        dropBlocks(node, 0);
        kindOf[node] = FREE;
        parentOf[node] = NONE;
        return OK;
    }

    public int rename(int d, int name, int e, int other) {
        if (!isHandle(d) || !isHandle(e) || !isName(name) || !isName(other)) {
            return BAD;
        }
        int from = nodeOf[d];
        int to = nodeOf[e];
        if (from == NONE || to == NONE) {
            return NOTHING;
        }
        if (kindOf[from] != DIRECTORY || kindOf[to] != DIRECTORY) {
            return WRONG;
        }
        int node = entryOf(from, name);
        if (node == NONE) {
            return NOTHING;
        }
        if (entryOf(to, other) != NONE) {
            return THERE;
        }
        if (isAtOrAbove(node, to)) {
            return CIRCLE;
        }
        parentOf[node] = to;
        nameOf[node] = other;
        return OK;
    }

    public int write(int h, int cell, int value) {
        if (!isHandle(h) || !isCell(cell)) {
            return BAD;
        }
        int fault = fileFault(h);
        if (fault != OK) {
            return fault;
        }
        int place = placeOf(nodeOf[h], cell / CELLS_OF_BLOCK);
        int copy = copyAt[place];
        if (copy == NONE || isSavedCopy(copy)) {
            int fresh = freeCopy();
            if (fresh == NONE) {
                return FULL;
            }
            fillCopy(fresh, copy);
            copyAt[place] = fresh;
            copy = fresh;
        }
        cellOf[copy * CELLS_OF_BLOCK + cell % CELLS_OF_BLOCK] = value;
        return OK;
    }

    public int read(int h, int cell) {
        if (!isHandle(h) || !isCell(cell)) {
            return 0;
        }
        if (fileFault(h) != OK) {
            return 0;
        }
        int copy = copyAt[placeOf(nodeOf[h], cell / CELLS_OF_BLOCK)];
        if (copy == NONE) {
            return 0;
        }
        return cellOf[copy * CELLS_OF_BLOCK + cell % CELLS_OF_BLOCK];
    }

    public int cut(int h, int block) {
        if (!isHandle(h) || block < 0 || block >= BLOCKS_OF_FILE) {
            return BAD;
        }
        int fault = fileFault(h);
        if (fault != OK) {
            return fault;
        }
        return dropBlocks(nodeOf[h], block);
    }

    public int kind(int h) {
        if (!isHandle(h)) {
            return BAD;
        }
        int node = nodeOf[h];
        return node == NONE ? 0 : kindOf[node];
    }

    public int next(int d, int name) {
        if (!isHandle(d)) {
            return BAD;
        }
        int fault = directoryFault(d);
        if (fault != OK) {
            return fault;
        }
        int directory = nodeOf[d];
        int smallest = NOTHING;
        for (int node = 0; node < NODES; node++) {
            boolean above = parentOf[node] == directory && nameOf[node] > name;
            if (above && (smallest == NOTHING || nameOf[node] < smallest)) {
                smallest = nameOf[node];
            }
        }
        return smallest;
    }

    public int size(int h) {
        if (!isHandle(h)) {
            return BAD;
        }
        int node = nodeOf[h];
        if (node == NONE) {
            return 0;
        }
        return kindOf[node] == DIRECTORY ? countEntries(node) : countBlocks(node);
    }

    public int copies() {
        int count = 0;
        for (int copy = 0; copy < COPIES; copy++) {
            if (isPresentCopy(copy) || isSavedCopy(copy)) {
                count++;
            }
        }
        return count;
    }

    public int nodes() {
        int count = 0;
        for (int node = 0; node < NODES; node++) {
            if (kindOf[node] != FREE) {
                count++;
            }
        }
        return count;
    }

    public int save() {
        storePresent();
        savings++;
        return savings;
    }

    public int crash(int when) {
        if (when != BEFORE_LAST_WRITE && when != AFTER_LAST_WRITE && when != AMID_LAST_WRITE) {
            return BAD;
        }
        if (when == AFTER_LAST_WRITE) {
            storePresent();
            savings++;
        }
        fetchSaved();
        dropHandles();
        return savings;
    }

    private static boolean isHandle(int h) {
        return h >= 0 && h < HANDLES;
    }

    // Handle 0 stays with the top.
    private static boolean isFreeHandle(int h) {
        return h >= 1 && h < HANDLES;
    }

    private static boolean isName(int name) {
        return name >= 0 && name <= LAST_NAME;
    }

    private static boolean isCell(int cell) {
        return cell >= 0 && cell < CELLS_OF_FILE;
    }

    private static int placeOf(int node, int block) {
        return node * BLOCKS_OF_FILE + block;
    }

    private int directoryFault(int h) {
        int node = nodeOf[h];
        if (node == NONE) {
            return NOTHING;
        }
        return kindOf[node] == DIRECTORY ? OK : WRONG;
    }

    private int fileFault(int h) {
        int node = nodeOf[h];
        if (node == NONE) {
            return NOTHING;
        }
        return kindOf[node] == FILE ? OK : WRONG;
    }

    // Neither the top nor a free node has a parent, so the parent alone tells the entries of a directory.
    private int entryOf(int directory, int name) {
        for (int node = 0; node < NODES; node++) {
            if (parentOf[node] == directory && nameOf[node] == name) {
                return node;
            }
        }
        return NONE;
    }

    private int countEntries(int directory) {
        int count = 0;
        for (int node = 0; node < NODES; node++) {
            if (parentOf[node] == directory) {
                count++;
            }
        }
        return count;
    }

    private int countBlocks(int file) {
        int count = 0;
        for (int block = 0; block < BLOCKS_OF_FILE; block++) {
            if (copyAt[placeOf(file, block)] != NONE) {
                count++;
            }
        }
        return count;
    }

    private int freeNode() {
        for (int node = 0; node < NODES; node++) {
            if (kindOf[node] == FREE) {
                return node;
            }
        }
        return NONE;
    }

    private boolean hasHandle(int node) {
        for (int h = 0; h < HANDLES; h++) {
            if (nodeOf[h] == node) {
                return true;
            }
        }
        return false;
    }

    // A way up meets every node at most once, so NODES steps reach the top from anywhere.
    private boolean isAtOrAbove(int upper, int lower) {
        int node = lower;
        for (int step = 0; step < NODES && node != NONE; step++) {
            if (node == upper) {
                return true;
            }
            node = parentOf[node];
        }
        return false;
    }

    private int dropBlocks(int node, int first) {
        int dropped = 0;
        for (int block = first; block < BLOCKS_OF_FILE; block++) {
            int place = placeOf(node, block);
            if (copyAt[place] != NONE) {
                copyAt[place] = NONE;
                dropped++;
            }
        }
        return dropped;
    }

    private boolean isPresentCopy(int copy) {
        return holdsCopy(copyAt, copy);
    }

    private boolean isSavedCopy(int copy) {
        return holdsCopy(savedCopyAt, copy);
    }

    private static boolean holdsCopy(int[] places, int copy) {
        for (int place = 0; place < PLACES; place++) {
            if (places[place] == copy) {
                return true;
            }
        }
        return false;
    }

    private int freeCopy() {
        for (int copy = 0; copy < COPIES; copy++) {
            if (!isPresentCopy(copy) && !isSavedCopy(copy)) {
                return copy;
            }
        }
        return NONE;
    }

    // A free copy may still hold the cells of a block that is gone, so it is filled even when there is no old one.
    private void fillCopy(int fresh, int old) {
        for (int cell = 0; cell < CELLS_OF_BLOCK; cell++) {
            int value = old == NONE ? 0 : cellOf[old * CELLS_OF_BLOCK + cell];
            cellOf[fresh * CELLS_OF_BLOCK + cell] = value;
        }
    }

    private void storePresent() {
        transfer(kindOf, savedKindOf, NODES);
        transfer(parentOf, savedParentOf, NODES);
        transfer(nameOf, savedNameOf, NODES);
        transfer(copyAt, savedCopyAt, PLACES);
    }

    private void fetchSaved() {
        transfer(savedKindOf, kindOf, NODES);
        transfer(savedParentOf, parentOf, NODES);
        transfer(savedNameOf, nameOf, NODES);
        transfer(savedCopyAt, copyAt, PLACES);
    }

    private static void transfer(int[] from, int[] to, int length) {
        for (int i = 0; i < length; i++) {
            to[i] = from[i];
        }
    }

    private void dropHandles() {
        for (int h = 1; h < HANDLES; h++) {
            nodeOf[h] = NONE;
        }
    }
}
