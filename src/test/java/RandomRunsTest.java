import java.util.ArrayDeque;
import java.util.ArrayList;
import java.util.Comparator;
import java.util.HashSet;
import java.util.IdentityHashMap;
import java.util.List;
import java.util.Map;
import java.util.Random;
import java.util.Set;

/**
 * Runs of 512 calls, drawn from fixed seeds, against a second writing of the document that holds its
 * objects as Java objects and shares nothing with the class.
 */
public final class RandomRunsTest {
    private static final int RUNS = 4000;
    private static final int CALLS = 512;

    private static final class Thing {
        final int name;
        final int address;
        final int cls;
        final Object[] fields;
        boolean watched;
        boolean marked;

        Thing(int name, int address, int cls, int n) {
            this.name = name;
            this.address = address;
            this.cls = cls;
            this.fields = new Object[n];
            for (int f = 0; f < n; f++) {
                fields[f] = 0;
            }
        }
    }

    private record Weak(Thing to) { }

    private static final class Box {
        int cls = -1;
        boolean unswept;
        Thing[] cells = new Thing[0];

        int things() {
            int n = 0;
            for (Thing t : cells) {
                n += t == null ? 0 : 1;
            }
            return n;
        }
    }

    private static final class Model {
        final Box[] boxes;
        final Thing[] roots = new Thing[16];
        final ArrayDeque<Thing> queue = new ArrayDeque<>();
        int made;
        int marks;
        int sweeps;

        Model(int n) {
            boxes = new Box[n < 1 ? 1 : n > 16 ? 16 : n];
            for (int b = 0; b < boxes.length; b++) {
                boxes[b] = new Box();
            }
        }

        List<Thing> things() {
            List<Thing> all = new ArrayList<>();
            for (Box box : boxes) {
                for (Thing t : box.cells) {
                    if (t != null) {
                        all.add(t);
                    }
                }
            }
            return all;
        }

        Set<Thing> reached(Iterable<Thing> from) {
            Set<Thing> seen = new HashSet<>();
            ArrayDeque<Thing> open = new ArrayDeque<>();
            for (Thing t : from) {
                open.push(t);
            }
            while (!open.isEmpty()) {
                Thing t = open.pop();
                if (seen.add(t)) {
                    for (Object f : t.fields) {
                        if (f instanceof Thing to) {
                            open.push(to);
                        }
                    }
                }
            }
            return seen;
        }

        List<Thing> held() {
            List<Thing> all = new ArrayList<>(queue);
            for (Thing t : roots) {
                if (t != null) {
                    all.add(t);
                }
            }
            return all;
        }

        void cutWeak() {
            for (Thing t : things()) {
                for (int f = 0; t.marked && f < t.fields.length; f++) {
                    if (t.fields[f] instanceof Weak w && !w.to().marked) {
                        t.fields[f] = 0;
                    }
                }
            }
        }

        int toMark() {
            for (Thing t : things()) {
                t.marked = false;
            }
            for (Thing t : reached(held())) {
                t.marked = true;
            }
            cutWeak();
            List<Thing> told = new ArrayList<>();
            for (Thing t : things()) {
                if (t.watched && !t.marked) {
                    told.add(t);
                }
            }
            told.sort(Comparator.comparingInt(t -> t.name));
            for (Thing t : told) {
                t.watched = false;
                queue.addLast(t);
            }
            for (Thing t : reached(told)) {
                t.marked = true;
            }
            cutWeak();
            for (Box box : boxes) {
                box.unswept = box.cls >= 0;
            }
            marks++;
            int n = 0;
            for (Thing t : things()) {
                n += t.marked ? 1 : 0;
            }
            return n;
        }

        void toSweep(Box box) {
            for (int i = 0; i < box.cells.length; i++) {
                if (box.cells[i] != null && !box.cells[i].marked) {
                    box.cells[i] = null;
                }
            }
            box.unswept = false;
            sweeps++;
            if (box.things() == 0) {
                box.cls = -1;
                box.cells = new Thing[0];
            }
        }

        int emptyCell(int c) {
            for (int b = 0; b < boxes.length; b++) {
                Box box = boxes[b];
                for (int i = 0; box.cls == c && !box.unswept && i < box.cells.length; i++) {
                    if (box.cells[i] == null) {
                        return b * 32 + i * (2 << c);
                    }
                }
            }
            return -1;
        }

        int open(int b, int c) {
            boxes[b].cls = c;
            boxes[b].cells = new Thing[32 / (2 << c)];
            return b * 32;
        }

        int round(int c) {
            int cell = emptyCell(c);
            for (int b = 0; cell < 0 && b < boxes.length; b++) {
                if (boxes[b].cls == c && boxes[b].unswept) {
                    toSweep(boxes[b]);
                    cell = emptyCell(c);
                    if (boxes[b].cls < 0) {
                        break;
                    }
                }
            }
            if (cell >= 0) {
                return cell;
            }
            for (int b = 0; b < boxes.length; b++) {
                if (boxes[b].cls < 0) {
                    return open(b, c);
                }
            }
            for (int b = 0; b < boxes.length; b++) {
                if (boxes[b].unswept) {
                    toSweep(boxes[b]);
                    if (boxes[b].cls < 0) {
                        return open(b, c);
                    }
                }
            }
            return -1;
        }

        int make(int root, int n) {
            if (noRoot(root) || n < 0 || n > 15) {
                return -2;
            }
            int c = n < 2 ? 0 : n < 4 ? 1 : n < 8 ? 2 : 3;
            int cell = round(c);
            if (cell < 0) {
                toMark();
                cell = round(c);
            }
            if (cell < 0) {
                return -4;
            }
            Thing t = new Thing(made++, cell, c, n);
            boxes[cell / 32].cells[cell % 32 / (2 << c)] = t;
            roots[root] = t;
            return t.name;
        }

        static boolean noRoot(int root) {
            return root < 0 || root > 15;
        }

        int fault(int root, int field) {
            if (noRoot(root) || field < 0 || field > 14) {
                return -2;
            }
            Thing t = roots[root];
            return t == null ? -3 : field >= t.fields.length ? -2 : 0;
        }

        int set(int root, int field, int v) {
            int fault = fault(root, field);
            if (fault == 0) {
                roots[root].fields[field] = v;
            }
            return fault;
        }

        int link(int root, int field, int to, boolean weakly) {
            int fault = fault(root, field);
            if (fault == -2 || noRoot(to)) {
                return -2;
            }
            if (fault == -3 || roots[to] == null) {
                return -3;
            }
            roots[root].fields[field] = weakly ? new Weak(roots[to]) : roots[to];
            return 0;
        }

        int refers(int root, int field) {
            int fault = fault(root, field);
            if (fault != 0) {
                return fault;
            }
            Object f = roots[root].fields[field];
            return f instanceof Integer ? 0 : f instanceof Thing ? 1 : 2;
        }

        int number(int root, int field) {
            return fault(root, field) == 0 && roots[root].fields[field] instanceof Integer v ? v : 0;
        }

        int load(int root, int from, int field) {
            int fault = fault(from, field);
            if (fault == -2 || noRoot(root)) {
                return -2;
            }
            if (fault == -3 || roots[from].fields[field] instanceof Integer) {
                return -3;
            }
            Object f = roots[from].fields[field];
            roots[root] = f instanceof Weak w ? w.to() : (Thing) f;
            return roots[root].name;
        }

        int copy(int root, int from) {
            if (noRoot(root) || noRoot(from)) {
                return -2;
            }
            roots[root] = roots[from];
            return roots[root] == null ? -1 : roots[root].name;
        }

        int drop(int root) {
            if (noRoot(root)) {
                return -2;
            }
            int was = roots[root] == null ? 0 : 1;
            roots[root] = null;
            return was;
        }

        int watch(int root, boolean on) {
            if (noRoot(root)) {
                return -2;
            }
            if (roots[root] == null) {
                return -3;
            }
            int was = roots[root].watched ? 1 : 0;
            roots[root].watched = on;
            return was;
        }

        int next(int root) {
            if (noRoot(root)) {
                return -2;
            }
            if (queue.isEmpty()) {
                return -1;
            }
            roots[root] = queue.removeFirst();
            return roots[root].name;
        }

        int sweep() {
            for (int b = 0; b < boxes.length; b++) {
                if (boxes[b].unswept) {
                    toSweep(boxes[b]);
                    return b;
                }
            }
            return -1;
        }

        int object(int root, int what) {
            if (noRoot(root) || what < 0 || what > 5) {
                return -2;
            }
            Thing t = roots[root];
            if (t == null) {
                return -3;
            }
            int[] answers = {
                t.name, t.address, t.fields.length, t.cls, t.watched ? 1 : 0, t.marked ? 1 : 0,
            };
            return answers[what];
        }

        int at(int word) {
            if (word < 0 || word >= 32 * boxes.length) {
                return -2;
            }
            for (Thing t : things()) {
                if (word >= t.address && word < t.address + (2 << t.cls)) {
                    return t.name;
                }
            }
            return -1;
        }

        int block(int b, int what) {
            if (b < 0 || b >= boxes.length || what < 0 || what > 3) {
                return -2;
            }
            Box box = boxes[b];
            int n = box.things();
            int[] answers = {box.cls, box.unswept ? 1 : 0, n, box.cells.length - n};
            return answers[what];
        }

        int count(int what) {
            if (what < 0 || what > 9) {
                return -2;
            }
            int[] n = new int[10];
            for (Thing t : things()) {
                n[0]++;
                n[1] += 2 << t.cls;
                n[8] += t.watched ? 1 : 0;
            }
            for (Box box : boxes) {
                n[5] += box.cls < 0 ? 1 : 0;
                n[6] += box.unswept ? 1 : 0;
            }
            n[2] = made;
            n[3] = marks;
            n[4] = sweeps;
            n[7] = queue.size();
            n[9] = reached(held()).size();
            return n[what];
        }

        int same(int one, int other) {
            if (noRoot(one) || noRoot(other)) {
                return -2;
            }
            return roots[one] == roots[other] ? 1 : 0;
        }

        long sum(int root) {
            if (noRoot(root)) {
                return -2;
            }
            if (roots[root] == null) {
                return 0;
            }
            List<Thing> order = new ArrayList<>();
            Map<Thing, Integer> numbers = new IdentityHashMap<>();
            order.add(roots[root]);
            numbers.put(roots[root], 0);
            for (int i = 0; i < order.size(); i++) {
                for (Object f : order.get(i).fields) {
                    if (f instanceof Thing t && !numbers.containsKey(t)) {
                        numbers.put(t, order.size());
                        order.add(t);
                    }
                }
            }
            long s = 7;
            for (Thing t : order) {
                s = 31 * s + t.fields.length;
                for (Object f : t.fields) {
                    long term = f instanceof Integer v ? 3L * v : f instanceof Thing to ? 3L * numbers.get(to) + 1 : 2;
                    s = 31 * s + term;
                }
            }
            return s;
        }
    }

    /** One run: its own mix of calls, so that some heaps fill up and others are mostly asked. */
    private static final class Run {
        static final int KINDS = 18;
        final Random random;
        final LazyBlocks x;
        final Model m;
        final int[] weights = new int[KINDS];
        final int usedRoots;
        final int mostFields;
        int weight;
        String call = "";

        Run(long seed) {
            random = new Random(seed);
            int blocks = random.nextInt(8) == 0 ? random.nextInt(20) - 1 : 1 + random.nextInt(5);
            x = new LazyBlocks(blocks);
            m = new Model(blocks);
            usedRoots = 2 + random.nextInt(15);
            mostFields = random.nextInt(4) == 0 ? 15 : 1 + random.nextInt(15);
            for (int i = 0; i < KINDS; i++) {
                weights[i] = 1 + random.nextInt(4);
            }
            weights[0] = 10 + random.nextInt(60);
            weights[2] = 5 + random.nextInt(30);
            weights[7] = random.nextInt(20);
            weights[8] = random.nextInt(12);
            for (int w : weights) {
                weight += w;
            }
        }

        int some(int bound) {
            int r = random.nextInt(100);
            return r == 0 ? -1 : r == 1 ? bound : r == 2 ? random.nextInt() : random.nextInt(bound);
        }

        int root() {
            return random.nextInt(50) == 0 ? some(16) : random.nextInt(usedRoots);
        }

        int field() {
            return random.nextInt(30) == 0 ? some(15) : random.nextInt(mostFields);
        }

        int kind() {
            int r = random.nextInt(weight);
            int i = 0;
            while (r >= weights[i]) {
                r -= weights[i];
                i++;
            }
            return i;
        }

        String text(String name, Object... parts) {
            StringBuilder t = new StringBuilder(name).append('(');
            for (Object p : parts) {
                t.append(t.length() == name.length() + 1 ? "" : ", ").append(p);
            }
            return t.append(')').toString();
        }

        /** The class's answer and the model's. */
        long[] step() {
            int kind = kind();
            int a = root();
            int b = root();
            int f = field();
            boolean on = random.nextInt(3) != 0;
            switch (kind) {
                case 0: {
                    int n = random.nextInt(40) == 0 ? some(16) : random.nextInt(mostFields + 1);
                    call = text("make", a, n);
                    return new long[] {x.make(a, n), m.make(a, n)};
                }
                case 1: {
                    int v = random.nextInt(4) == 0 ? random.nextInt() : random.nextInt(9) - 4;
                    call = text("set", a, f, v);
                    return new long[] {x.set(a, f, v), m.set(a, f, v)};
                }
                case 2:
                    on = random.nextInt(3) == 0;
                    call = text("link", a, f, b, on);
                    return new long[] {x.link(a, f, b, on), m.link(a, f, b, on)};
                case 3:
                    call = text("refers", a, f);
                    return new long[] {x.refers(a, f), m.refers(a, f)};
                case 4:
                    call = text("number", a, f);
                    return new long[] {x.number(a, f), m.number(a, f)};
                case 5:
                    call = text("load", a, b, f);
                    return new long[] {x.load(a, b, f), m.load(a, b, f)};
                case 6:
                    call = text("copy", a, b);
                    return new long[] {x.copy(a, b), m.copy(a, b)};
                case 7:
                    call = text("drop", a);
                    return new long[] {x.drop(a), m.drop(a)};
                case 8:
                    call = text("watch", a, on);
                    return new long[] {x.watch(a, on), m.watch(a, on)};
                default:
                    return stepMore(kind, a, b);
            }
        }

        long[] stepMore(int kind, int a, int b) {
            switch (kind) {
                case 9:
                    call = text("next", a);
                    return new long[] {x.next(a), m.next(a)};
                case 10:
                    call = text("mark");
                    return new long[] {x.mark(), m.toMark()};
                case 11:
                    call = text("sweep");
                    return new long[] {x.sweep(), m.sweep()};
                case 12: {
                    int what = some(6);
                    call = text("object", a, what);
                    return new long[] {x.object(a, what), m.object(a, what)};
                }
                case 13: {
                    int word = some(32 * m.boxes.length);
                    call = text("at", word);
                    return new long[] {x.at(word), m.at(word)};
                }
                case 14: {
                    int box = some(m.boxes.length);
                    int what = some(4);
                    call = text("block", box, what);
                    return new long[] {x.block(box, what), m.block(box, what)};
                }
                case 15: {
                    int what = some(10);
                    call = text("count", what);
                    return new long[] {x.count(what), m.count(what)};
                }
                case 16:
                    call = text("same", a, b);
                    return new long[] {x.same(a, b), m.same(a, b)};
                default:
                    call = text("sum", a);
                    return new long[] {x.sum(a), m.sum(a)};
            }
        }
    }

    public static void main(String[] args) {
        int wrong = 0;
        int full = 0;
        int told = 0;
        for (int seed = 0; seed < RUNS && wrong < 20; seed++) {
            Run run = new Run(seed);
            for (int i = 0; i < CALLS; i++) {
                long[] answers = run.step();
                full += run.call.startsWith("make") && answers[1] == -4 ? 1 : 0;
                told += run.call.startsWith("next") && answers[1] >= 0 ? 1 : 0;
                if (answers[0] != answers[1]) {
                    wrong++;
                    System.out.println("seed " + seed + ", call " + i + ": " + run.call + " answered "
                        + answers[0] + ", due is " + answers[1]);
                    break;
                }
            }
        }
        // Runs that never fill a heap or tell of an object would prove little.
        if (full < RUNS || told < RUNS) {
            wrong++;
            System.out.println("too few: FULL " + full + ", told of " + told);
        }
        System.out.println(wrong == 0 ? "all answers are as due" : wrong + " runs are not as due");
        if (wrong != 0) {
            System.exit(1);
        }
    }
}
