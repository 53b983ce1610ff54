/**
 * A heap of blocks with cells of one size each, marked all at once and swept block by block.
 *
 * <p>An object never moves, so inside this file an object is known by its ADDRESS, the first word of
 * its cell. All rows are made in the constructor; no call makes anything.
 */
public final class LazyBlocks {
    public static final int NONE = -1;
    public static final int BAD = -2;
    public static final int REFUSED = -3;
    public static final int FULL = -4;

    private static final int FINE = 0;
    private static final int ROOTS = 16;
    private static final int MOST_BLOCKS = 16;
    private static final int MOST_FIELDS = 15;
    private static final int MOST_MADE = 2000;
    private static final int BLOCK_WORDS = 32;
    private static final int LEAST_CELL_WORDS = 2;
    private static final int CLASSES = 4;

    /** Stands where an address could stand: no object, or no cell. */
    private static final int NOWHERE = -1;

    private static final int IS_NUMBER = 0;
    private static final int IS_STRONG = 1;
    private static final int IS_WEAK = 2;

    private final Store store;
    private final Blocks blocks;
    private final Line queue;
    private final int[] roots;

    /** What the latest TO MARK came to; kept until the next one, since sweeping asks for it. */
    private final Walk marks;

    /** For questions about what is reached, which must leave the marks alone. */
    private final Walk walk;

    private int made;
    private int markings;

    public LazyBlocks(int blocks) {
        int total = Math.max(1, Math.min(blocks, MOST_BLOCKS));
        int words = total * BLOCK_WORDS;
        this.store = new Store(words);
        this.marks = new Walk(words);
        this.walk = new Walk(words);
        this.queue = new Line(words / LEAST_CELL_WORDS);
        this.blocks = new Blocks(total, store, marks);
        this.roots = new int[ROOTS];
        for (int i = 0; i < ROOTS; i++) {
            roots[i] = NOWHERE;
        }
    }

    public int make(int root, int n) {
        if (!isRoot(root) || n < 0 || n > MOST_FIELDS) {
            return BAD;
        }
        if (made >= MOST_MADE) {
            return FULL;
        }
        int address = cellFor(classFor(n));
        if (address == NOWHERE) {
            return FULL;
        }
        int name = made;
        made++;
        store.place(address, name, n);
        roots[root] = address;
        return name;
    }

    public int set(int root, int field, int v) {
        int fault = fieldFault(root, field);
        if (fault == FINE) {
            store.write(roots[root], field, IS_NUMBER, v);
        }
        return fault;
    }

    public int link(int root, int field, int to, boolean weakly) {
        int fault = fieldFault(root, field);
        if (fault == BAD || !isRoot(to)) {
            return BAD;
        }
        if (fault == REFUSED || roots[to] == NOWHERE) {
            return REFUSED;
        }
        store.write(roots[root], field, weakly ? IS_WEAK : IS_STRONG, roots[to]);
        return FINE;
    }

    public int refers(int root, int field) {
        int fault = fieldFault(root, field);
        return fault == FINE ? store.kindOf(roots[root], field) : fault;
    }

    public int number(int root, int field) {
        if (fieldFault(root, field) != FINE || store.kindOf(roots[root], field) != IS_NUMBER) {
            return 0;
        }
        return store.valueOf(roots[root], field);
    }

    public int load(int root, int from, int field) {
        int fault = fieldFault(from, field);
        if (fault == BAD || !isRoot(root)) {
            return BAD;
        }
        if (fault == REFUSED || store.kindOf(roots[from], field) == IS_NUMBER) {
            return REFUSED;
        }
        roots[root] = store.valueOf(roots[from], field);
        return store.nameAt(roots[root]);
    }

    public int copy(int root, int from) {
        if (!isRoot(root) || !isRoot(from)) {
            return BAD;
        }
        roots[root] = roots[from];
        return store.nameAt(roots[root]);
    }

    public int drop(int root) {
        if (!isRoot(root)) {
            return BAD;
        }
        int referred = oneIf(roots[root] != NOWHERE);
        roots[root] = NOWHERE;
        return referred;
    }

    public int watch(int root, boolean on) {
        int fault = rootFault(root);
        if (fault != FINE) {
            return fault;
        }
        int was = oneIf(store.isWatched(roots[root]));
        store.setWatched(roots[root], on);
        return was;
    }

    public int next(int root) {
        if (!isRoot(root)) {
            return BAD;
        }
        int address = queue.takeFirst();
        if (address == NOWHERE) {
            return NONE;
        }
        roots[root] = address;
        return store.nameAt(address);
    }

    public int mark() {
        markAll();
        return marks.size();
    }

    public int sweep() {
        int b = blocks.firstUnswept();
        blocks.clean(b);
        return b;
    }

    public int object(int root, int what) {
        if (what < 0 || what > 5) {
            return BAD;
        }
        int fault = rootFault(root);
        return fault == FINE ? tell(roots[root], what) : fault;
    }

    public int at(int word) {
        if (word < 0 || word >= store.words()) {
            return BAD;
        }
        return store.nameAt(blocks.cellAround(word));
    }

    public int block(int b, int what) {
        if (!blocks.has(b)) {
            return BAD;
        }
        switch (what) {
            case 0:
                return blocks.classOf(b);
            case 1:
                return oneIf(blocks.isUnswept(b));
            case 2:
                return blocks.objectsIn(b);
            case 3:
                return blocks.emptyCellsIn(b);
            default:
                return BAD;
        }
    }

    public int count(int what) {
        switch (what) {
            case 0:
                return blocks.objects();
            case 1:
                return blocks.usedWords();
            case 2:
                return made;
            case 3:
                return markings;
            case 4:
                return blocks.sweepsDone();
            case 5:
                return blocks.freeBlocks();
            case 6:
                return blocks.unsweptBlocks();
            case 7:
                return queue.size();
            case 8:
                return store.watchedObjects();
            case 9:
                return heldObjects();
            default:
                return BAD;
        }
    }

    public int same(int one, int other) {
        if (!isRoot(one) || !isRoot(other)) {
            return BAD;
        }
        return oneIf(roots[one] == roots[other]);
    }

    public long sum(int root) {
        if (!isRoot(root)) {
            return BAD;
        }
        if (roots[root] == NOWHERE) {
            return 0L;
        }
        walk.clear();
        walk.come(roots[root]);
        walk.spread(store);
        long s = 7L;
        for (int i = 0; i < walk.size(); i++) {
            s = addObject(s, walk.get(i));
        }
        return s;
    }

    private static int oneIf(boolean yes) {
        return yes ? 1 : 0;
    }

    private static int cellWords(int c) {
        return LEAST_CELL_WORDS << c;
    }

    private static int cellsPerBlock(int c) {
        return (BLOCK_WORDS / LEAST_CELL_WORDS) >> c;
    }

    private static int classFor(int fields) {
        int c = 0;
        while (c < CLASSES - 1 && cellWords(c) < fields + 1) {
            c++;
        }
        return c;
    }

    private static boolean isRoot(int root) {
        return root >= 0 && root < ROOTS;
    }

    private int rootFault(int root) {
        if (!isRoot(root)) {
            return BAD;
        }
        return roots[root] == NOWHERE ? REFUSED : FINE;
    }

    private int fieldFault(int root, int field) {
        if (field < 0 || field >= MOST_FIELDS) {
            return BAD;
        }
        int fault = rootFault(root);
        if (fault != FINE) {
            return fault;
        }
        return field < store.fieldsOf(roots[root]) ? FINE : BAD;
    }

    private int tell(int address, int what) {
        switch (what) {
            case 0:
                return store.nameAt(address);
            case 1:
                return address;
            case 2:
                return store.fieldsOf(address);
            case 3:
                return classFor(store.fieldsOf(address));
            case 4:
                return oneIf(store.isWatched(address));
            default:
                return oneIf(marks.has(address));
        }
    }

    private int cellFor(int c) {
        int address = blocks.findCell(c);
        if (address == NOWHERE) {
            markAll();
            address = blocks.findCell(c);
        }
        return address;
    }

    private void markAll() {
        marks.clear();
        comeToHeld(marks);
        marks.spread(store);
        cutWeakFields();
        queueWatched();
        marks.spread(store);
        cutWeakFields();
        blocks.unsweepAll();
        markings++;
    }

    private void comeToHeld(Walk to) {
        for (int i = 0; i < ROOTS; i++) {
            to.come(roots[i]);
        }
        for (int i = 0; i < queue.size(); i++) {
            to.come(queue.get(i));
        }
    }

    private int heldObjects() {
        walk.clear();
        comeToHeld(walk);
        walk.spread(store);
        return walk.size();
    }

    private void cutWeakFields() {
        for (int i = 0; i < marks.size(); i++) {
            int address = marks.get(i);
            for (int f = 0; f < store.fieldsOf(address); f++) {
                boolean weak = store.kindOf(address, f) == IS_WEAK;
                if (weak && !marks.has(store.valueOf(address, f))) {
                    store.write(address, f, IS_NUMBER, 0);
                }
            }
        }
    }

    /** All of them are queued before one is marked: else one would keep another from being told of. */
    private void queueWatched() {
        int before = queue.size();
        for (int a = 0; a < store.words(); a += LEAST_CELL_WORDS) {
            if (store.isWatched(a) && !marks.has(a)) {
                store.setWatched(a, false);
                queue.addByName(a, before, store);
            }
        }
        for (int i = before; i < queue.size(); i++) {
            marks.come(queue.get(i));
        }
    }

    private long addObject(long before, int address) {
        int fields = store.fieldsOf(address);
        long s = 31L * before + fields;
        for (int f = 0; f < fields; f++) {
            s = 31L * s + fieldTerm(address, f);
        }
        return s;
    }

    private long fieldTerm(int address, int field) {
        int value = store.valueOf(address, field);
        switch (store.kindOf(address, field)) {
            case IS_STRONG:
                return 3L * walk.rankOf(value) + 1L;
            case IS_WEAK:
                return 2L;
            default:
                return 3L * value;
        }
    }

    /**
     * The objects, by address. A word's kind and value are those of the field that lies there; field f
     * lies f + 1 words behind its object's address, since every cell has a word more than fields.
     */
    private static final class Store {
        private final int[] names;
        private final int[] fields;
        private final boolean[] watched;
        private final int[] kinds;
        private final int[] values;

        Store(int words) {
            names = new int[words];
            fields = new int[words];
            watched = new boolean[words];
            kinds = new int[words];
            values = new int[words];
            for (int i = 0; i < words; i++) {
                names[i] = NONE;
            }
        }

        int words() {
            return names.length;
        }

        private boolean isWord(int word) {
            return word >= 0 && word < names.length;
        }

        int nameAt(int address) {
            return isWord(address) ? names[address] : NONE;
        }

        int fieldsOf(int address) {
            return isWord(address) ? fields[address] : 0;
        }

        boolean isWatched(int address) {
            return isWord(address) && watched[address];
        }

        void setWatched(int address, boolean on) {
            if (isWord(address)) {
                watched[address] = on;
            }
        }

        int kindOf(int address, int field) {
            int word = address + 1 + field;
            return isWord(word) ? kinds[word] : IS_NUMBER;
        }

        int valueOf(int address, int field) {
            int word = address + 1 + field;
            return isWord(word) ? values[word] : 0;
        }

        void write(int address, int field, int kind, int value) {
            int word = address + 1 + field;
            if (isWord(word)) {
                kinds[word] = kind;
                values[word] = value;
            }
        }

        void place(int address, int name, int howMany) {
            if (!isWord(address)) {
                return;
            }
            names[address] = name;
            fields[address] = howMany;
            for (int f = 0; f < howMany; f++) {
                write(address, f, IS_NUMBER, 0);
            }
        }

        void remove(int address) {
            if (isWord(address)) {
                names[address] = NONE;
                fields[address] = 0;
                watched[address] = false;
            }
        }

        int watchedObjects() {
            int n = 0;
            for (int a = 0; a < watched.length; a += LEAST_CELL_WORDS) {
                n += oneIf(watched[a]);
            }
            return n;
        }
    }

    /** Objects in the order in which they were come to, each once. */
    private static final class Walk {
        private final int[] order;
        private final int[] ranks;
        private int size;

        /** How many of them have been looked through, so that a walk can go on after more came. */
        private int looked;

        Walk(int words) {
            order = new int[words / LEAST_CELL_WORDS];
            ranks = new int[words];
            for (int i = 0; i < words; i++) {
                ranks[i] = NONE;
            }
        }

        int size() {
            return size;
        }

        int get(int i) {
            return i >= 0 && i < size && i < order.length ? order[i] : NOWHERE;
        }

        int rankOf(int address) {
            return address >= 0 && address < ranks.length ? ranks[address] : NONE;
        }

        boolean has(int address) {
            return rankOf(address) != NONE;
        }

        void clear() {
            for (int i = 0; i < ranks.length; i++) {
                ranks[i] = NONE;
            }
            size = 0;
            looked = 0;
        }

        void come(int address) {
            if (address < 0 || address >= ranks.length || size >= order.length) {
                return;
            }
            if (ranks[address] == NONE) {
                ranks[address] = size;
                order[size] = address;
                size++;
            }
        }

        void spread(Store store) {
            for (int i = looked; i < size && i < order.length; i++) {
                int address = order[i];
                for (int f = 0; f < store.fieldsOf(address); f++) {
                    if (store.kindOf(address, f) == IS_STRONG) {
                        come(store.valueOf(address, f));
                    }
                }
            }
            looked = size;
        }
    }

    /** THE QUEUE. An object in it is marked each time, so it is never in it twice. */
    private static final class Line {
        private final int[] members;
        private int size;

        Line(int most) {
            members = new int[most];
        }

        int size() {
            return size;
        }

        int get(int i) {
            return i >= 0 && i < size && i < members.length ? members[i] : NOWHERE;
        }

        /** Only members from the given place on are in the order of their names. */
        void addByName(int address, int from, Store store) {
            if (size >= members.length || from < 0) {
                return;
            }
            int i = size;
            while (i > from && store.nameAt(members[i - 1]) > store.nameAt(address)) {
                members[i] = members[i - 1];
                i--;
            }
            members[i] = address;
            size++;
        }

        int takeFirst() {
            if (size <= 0 || members.length == 0) {
                return NOWHERE;
            }
            int first = members[0];
            for (int i = 1; i < size && i < members.length; i++) {
                members[i - 1] = members[i];
            }
            size--;
            return first;
        }
    }

    /** The blocks: the class of each (NONE: FREE), and which of them are unswept. */
    private static final class Blocks {
        private final Store store;
        private final Walk marks;
        private final int[] classes;
        private final boolean[] unswept;
        private int sweeps;

        Blocks(int total, Store store, Walk marks) {
            this.store = store;
            this.marks = marks;
            classes = new int[total];
            unswept = new boolean[total];
            for (int b = 0; b < total; b++) {
                classes[b] = NONE;
            }
        }

        boolean has(int b) {
            return b >= 0 && b < classes.length;
        }

        int classOf(int b) {
            return b >= 0 && b < classes.length ? classes[b] : NONE;
        }

        boolean isUnswept(int b) {
            return has(b) && unswept[b];
        }

        int sweepsDone() {
            return sweeps;
        }

        private int cellsIn(int b) {
            int c = classOf(b);
            return c == NONE ? 0 : cellsPerBlock(c);
        }

        private int cellOf(int b, int i) {
            int c = classOf(b);
            return c == NONE ? NOWHERE : b * BLOCK_WORDS + i * cellWords(c);
        }

        /** Cells are powers of two and begin at multiples of their size: a mask finds their first word. */
        int cellAround(int word) {
            int c = classOf(word / BLOCK_WORDS);
            return c == NONE ? NOWHERE : word & -cellWords(c);
        }

        int objectsIn(int b) {
            int n = 0;
            int cells = cellsIn(b);
            for (int i = 0; i < cells; i++) {
                n += oneIf(store.nameAt(cellOf(b, i)) != NONE);
            }
            return n;
        }

        int emptyCellsIn(int b) {
            return cellsIn(b) - objectsIn(b);
        }

        int objects() {
            int n = 0;
            for (int b = 0; b < classes.length; b++) {
                n += objectsIn(b);
            }
            return n;
        }

        int usedWords() {
            int n = 0;
            for (int b = 0; b < classes.length; b++) {
                if (classes[b] != NONE) {
                    n += objectsIn(b) * cellWords(classes[b]);
                }
            }
            return n;
        }

        int freeBlocks() {
            int n = 0;
            for (int b = 0; b < classes.length; b++) {
                n += oneIf(classes[b] == NONE);
            }
            return n;
        }

        int unsweptBlocks() {
            int n = 0;
            for (int b = 0; b < classes.length; b++) {
                n += oneIf(isUnswept(b));
            }
            return n;
        }

        int firstUnswept() {
            for (int b = 0; b < classes.length; b++) {
                if (isUnswept(b)) {
                    return b;
                }
            }
            return NONE;
        }

        void unsweepAll() {
            for (int b = 0; b < classes.length && b < unswept.length; b++) {
                unswept[b] = classes[b] != NONE;
            }
        }

        void clean(int b) {
            if (!isUnswept(b)) {
                return;
            }
            int kept = 0;
            int cells = cellsIn(b);
            for (int i = 0; i < cells; i++) {
                int address = cellOf(b, i);
                if (marks.has(address)) {
                    kept++;
                } else {
                    store.remove(address);
                }
            }
            unswept[b] = false;
            sweeps++;
            if (kept == 0) {
                classes[b] = NONE;
            }
        }

        /** A cell for an object of class c, as far as it can be had without marking again. */
        int findCell(int c) {
            int address = emptyCell(c);
            if (address == NOWHERE) {
                cleanOwn(c);
                address = emptyCell(c);
            }
            if (address != NOWHERE) {
                return address;
            }
            int b = firstFree();
            if (b == NONE) {
                b = cleanOthers(c);
            }
            return open(b, c);
        }

        private int emptyCell(int c) {
            for (int b = 0; b < classes.length; b++) {
                if (classes[b] == c && !isUnswept(b)) {
                    int address = emptyCellOf(b);
                    if (address != NOWHERE) {
                        return address;
                    }
                }
            }
            return NOWHERE;
        }

        private int emptyCellOf(int b) {
            int cells = cellsIn(b);
            for (int i = 0; i < cells; i++) {
                int address = cellOf(b, i);
                if (store.nameAt(address) == NONE) {
                    return address;
                }
            }
            return NOWHERE;
        }

        private void cleanOwn(int c) {
            for (int b = 0; b < classes.length; b++) {
                if (classes[b] == c && isUnswept(b)) {
                    clean(b);
                    if (classes[b] == NONE || emptyCellOf(b) != NOWHERE) {
                        return;
                    }
                }
            }
        }

        private int cleanOthers(int c) {
            for (int b = 0; b < classes.length; b++) {
                if (classes[b] != c && isUnswept(b)) {
                    clean(b);
                    if (classes[b] == NONE) {
                        return b;
                    }
                }
            }
            return NONE;
        }

        private int firstFree() {
            for (int b = 0; b < classes.length; b++) {
                if (classes[b] == NONE) {
                    return b;
                }
            }
            return NONE;
        }

        private int open(int b, int c) {
            if (!has(b)) {
                return NOWHERE;
            }
            classes[b] = c;
            return cellOf(b, 0);
        }
    }
}
