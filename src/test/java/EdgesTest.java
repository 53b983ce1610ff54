import java.math.BigInteger;

/** Each sentence of the promises that names a boundary case; wrong inputs are in RefusalsTest. */
public final class EdgesTest extends Due {
    private static void below1CountsAs1() {
        for (int blocks : new int[] {Integer.MIN_VALUE, -16, -1, 0, 1}) {
            LazyBlocks x = new LazyBlocks(blocks);
            due("FREE blocks of " + blocks, x.count(5), 1);
            due("at(31)", x.at(31), NONE);
            due("at(32)", x.at(32), BAD);
            due("block(1, 0)", x.block(1, 0), BAD);
        }
        due("FREE blocks of 2", new LazyBlocks(2).count(5), 2);
    }

    private static void above16CountsAs16() {
        for (int blocks : new int[] {16, 17, 32, Integer.MAX_VALUE}) {
            LazyBlocks x = new LazyBlocks(blocks);
            due("FREE blocks of " + blocks, x.count(5), 16);
            due("at(511)", x.at(511), NONE);
            due("at(512)", x.at(512), BAD);
            due("block(16, 0)", x.block(16, 0), BAD);
        }
        due("FREE blocks of 15", new LazyBlocks(15).count(5), 15);
    }

    private static void aHeapOfFreeBlocks() {
        LazyBlocks x = new LazyBlocks(16);
        counts(x, 0, 0, 0, 0, 0, 16, 0, 0, 0, 0);
        for (int b = 0; b < 16; b++) {
            cells(x, b, NONE, 0, 0, 0);
        }
        due("next(0)", x.next(0), NONE);
        due("sweep()", x.sweep(), NONE);
        due("mark()", x.mark(), 0);
    }

    private static void twoHeapsShareNothing() {
        LazyBlocks x = new LazyBlocks(1);
        LazyBlocks y = new LazyBlocks(1);
        due("make(0, 15)", x.make(0, 15), 0);
        counts(y, 0, 0, 0, 0, 0, 1, 0, 0, 0, 0);
        due("make(0, 0)", y.make(0, 0), 0);
        due("object(0, 2)", x.object(0, 2), 15);
    }

    private static void makeOf0And15Fields() {
        LazyBlocks x = new LazyBlocks(2);
        makes(x, 0, 0, 0);
        makes(x, 15, 15, 32);
        due("object(0, 2)", x.object(0, 2), 0);
        due("object(15, 2)", x.object(15, 2), 15);
        due("make(0, -1)", x.make(0, -1), BAD);
        due("make(0, 16)", x.make(0, 16), BAD);
    }

    private static void whichARootRefersToThen() {
        LazyBlocks x = new LazyBlocks(1);
        makes(x, 0, 1, 0);
        x.copy(1, 0);
        makes(x, 0, 1, 2);
        due("object(0, 0)", x.object(0, 0), 1);
        due("another root stays", x.object(1, 0), 0);
        makes(x, 0, 1, 4);
        due("the former one is still there", x.at(2), 1);
        due("mark()", x.mark(), 2);
    }

    /** The root's former object is let go when the new one is there, not before. */
    private static void theRootHoldsWhileItMakes() {
        LazyBlocks x = new LazyBlocks(1);
        fill(x, 2);
        due("make(0, 15)", x.make(0, 15), FULL);
        due("object(0, 0)", x.object(0, 0), 0);
        due("object(1, 0)", x.object(1, 0), 1);
    }

    private static void fullOneBlock() {
        int[] most = {1, 3, 7, 15};
        for (int c = 0; c < 4; c++) {
            LazyBlocks x = new LazyBlocks(1);
            int cells = 16 >> c;
            for (int i = 0; i < cells; i++) {
                makes(x, i, most[c], i * (2 << c));
            }
            due("make(0, " + most[c] + ")", x.make(0, most[c]), FULL);
            counts(x, cells, 32, cells, 1, 1, 0, 0, 0, 0, cells);
            drops(x, cells - 1);
            makes(x, 0, most[c], 32 - (2 << c));
        }
    }

    private static void fullForOneClassOnly() {
        LazyBlocks x = new LazyBlocks(1);
        makes(x, 0, 0, 0);
        due("make(1, 15)", x.make(1, 15), FULL);
        due("make(1, 2)", x.make(1, 2), FULL);
        makes(x, 1, 1, 2);
    }

    private static void fullOfWhatTheQueueHolds() {
        LazyBlocks x = new LazyBlocks(1);
        fill(x, 2);
        x.watch(0, true);
        x.watch(1, true);
        drops(x, 0, 1);
        due("make(2, 15)", x.make(2, 15), FULL);
        due("count(7)", x.count(7), 2);
        due("next(2)", x.next(2), 0);
        due("next(2)", x.next(2), 1);
        makes(x, 3, 15, 0);
        due("next(2)", x.next(2), NONE);
    }

    private static void fullOfGarbage() {
        LazyBlocks x = new LazyBlocks(16);
        for (int i = 0; i < 256; i++) {
            due("make(0, 0)", x.make(0, 0), i);
        }
        counts(x, 256, 512, 256, 0, 0, 0, 0, 0, 0, 1);
        makes(x, 1, 15, 0);
        counts(x, 241, 496, 257, 1, 1, 0, 15, 0, 0, 2);
        makes(x, 2, 1, 32);
        counts(x, 226, 466, 258, 1, 2, 0, 14, 0, 0, 3);
    }

    /** Behind the 512th call, where answers are free: the sentence can not be tested before. */
    private static void fullAtOnceIf2000WereMade() {
        LazyBlocks x = new LazyBlocks(1);
        for (int i = 0; i < 2000; i++) {
            due("make(0, 1)", x.make(0, 1), i);
        }
        int marks = x.count(3);
        int sweeps = x.count(4);
        due("an empty cell is there", x.block(0, 3) > 0 ? 1 : 0, 1);
        due("make(0, 1)", x.make(0, 1), FULL);
        due("of another class, for which it would mark", x.make(0, 15), FULL);
        due("make(0, 16)", x.make(0, 16), BAD);
        due("make(16, 0)", x.make(16, 0), BAD);
        due("count(2)", x.count(2), 2000);
        due("not marked", x.count(3), marks);
        due("not swept", x.count(4), sweeps);
        due("the root stays", x.object(0, 0), 1999);
    }

    private static void setEdges() {
        LazyBlocks x = new LazyBlocks(1);
        makes(x, 15, 15, 0);
        int[] values = {Integer.MIN_VALUE, -4, -1, 0, 1, Integer.MAX_VALUE};
        for (int f : new int[] {0, 14}) {
            for (int v : values) {
                due("set(15, " + f + ", " + v + ")", x.set(15, f, v), 0);
                due("number(15, " + f + ")", x.number(15, f), v);
            }
        }
        due("number(15, 1)", x.number(15, 1), 0);
        due("number(15, 13)", x.number(15, 13), 0);
    }

    private static void setEndsAReference() {
        LazyBlocks x = new LazyBlocks(1);
        makes(x, 0, 3, 0);
        makes(x, 1, 3, 4);
        x.link(0, 0, 1, false);
        x.link(0, 1, 1, true);
        drops(x, 1);
        due("set(0, 0, 5)", x.set(0, 0, 5), 0);
        due("refers(0, 0)", x.refers(0, 0), 0);
        due("set(0, 1, 6)", x.set(0, 1, 6), 0);
        due("mark()", x.mark(), 1);
        due("number(0, 0)", x.number(0, 0), 5);
        due("number(0, 1)", x.number(0, 1), 6);
    }

    private static void fieldsOfNeighboursStayApart() {
        LazyBlocks x = new LazyBlocks(1);
        makes(x, 0, 1, 0);
        makes(x, 1, 1, 2);
        makes(x, 2, 0, 4);
        x.set(0, 0, 10);
        x.set(1, 0, 11);
        due("number(0, 0)", x.number(0, 0), 10);
        due("number(1, 0)", x.number(1, 0), 11);
        x.link(0, 0, 2, false);
        due("number(1, 0)", x.number(1, 0), 11);
        due("object(2, 2)", x.object(2, 2), 0);
    }

    private static void linkPerhapsTheSame() {
        LazyBlocks x = new LazyBlocks(1);
        makes(x, 3, 2, 0);
        due("link(3, 0, 3, false)", x.link(3, 0, 3, false), 0);
        due("link(3, 1, 3, true)", x.link(3, 1, 3, true), 0);
        due("refers(3, 0)", x.refers(3, 0), 1);
        due("refers(3, 1)", x.refers(3, 1), 2);
        due("load(4, 3, 0)", x.load(4, 3, 0), 0);
        drops(x, 4);
        due("mark()", x.mark(), 1);
        due("a weak field to itself stays", x.refers(3, 1), 2);
        drops(x, 3);
        due("it does not hold itself", x.mark(), 0);
    }

    private static void linkToAnObjectNotARoot() {
        LazyBlocks x = new LazyBlocks(1);
        makes(x, 0, 1, 0);
        makes(x, 1, 0, 2);
        x.link(0, 0, 1, false);
        makes(x, 1, 0, 4);
        due("the root has gone on", x.load(2, 0, 0), 1);
        due("link(0, 0, 1, true)", x.link(0, 0, 1, true), 0);
        due("weakly now", x.refers(0, 0), 2);
        due("load(2, 0, 0)", x.load(2, 0, 0), 2);
        due("link(0, 0, 1, false)", x.link(0, 0, 1, false), 0);
        due("not weakly now", x.refers(0, 0), 1);
    }

    private static void refersOfEachKind() {
        LazyBlocks x = new LazyBlocks(2);
        makes(x, 0, 15, 0);
        makes(x, 1, 0, 32);
        for (int f : new int[] {0, 14}) {
            due("at first", x.refers(0, f), 0);
            x.link(0, f, 1, false);
            due("refers(0, " + f + ")", x.refers(0, f), 1);
            x.link(0, f, 1, true);
            due("weakly", x.refers(0, f), 2);
            x.set(0, f, 1);
            due("a number", x.refers(0, f), 0);
            due("the field between", x.refers(0, 7), 0);
        }
    }

    private static void numberIs0IfItRefers() {
        LazyBlocks x = new LazyBlocks(2);
        makes(x, 0, 3, 0);
        makes(x, 1, 15, 32);
        x.set(0, 0, 5);
        x.set(0, 1, 5);
        x.link(0, 0, 1, false);
        x.link(0, 1, 1, true);
        due("number(0, 0)", x.number(0, 0), 0);
        due("number(0, 1)", x.number(0, 1), 0);
        drops(x, 1);
        due("mark()", x.mark(), 2);
        x.set(0, 0, 0);
        due("mark()", x.mark(), 1);
        due("0 when it is cut", x.number(0, 1), 0);
    }

    private static void loadWeaklyToo() {
        LazyBlocks x = new LazyBlocks(1);
        makes(x, 0, 1, 0);
        makes(x, 1, 1, 2);
        x.link(0, 0, 1, true);
        drops(x, 1);
        due("load(15, 0, 0)", x.load(15, 0, 0), 1);
        due("held by the root now", x.mark(), 2);
        due("the field stays weak", x.refers(0, 0), 2);
        drops(x, 15);
        due("mark()", x.mark(), 1);
        due("load(15, 0, 0)", x.load(15, 0, 0), REFUSED);
    }

    private static void loadIntoTheRootItself() {
        LazyBlocks x = new LazyBlocks(1);
        makes(x, 0, 1, 0);
        makes(x, 1, 1, 2);
        x.link(0, 0, 1, false);
        x.link(1, 0, 0, true);
        drops(x, 1);
        due("load(0, 0, 0)", x.load(0, 0, 0), 1);
        due("object(0, 0)", x.object(0, 0), 1);
        due("the former one is still there", x.load(1, 0, 0), 0);
        drops(x, 1);
        due("mark()", x.mark(), 1);
    }

    private static void copyOfNone() {
        LazyBlocks x = new LazyBlocks(1);
        makes(x, 0, 1, 0);
        due("copy(15, 0)", x.copy(15, 0), 0);
        due("copy(15, 15)", x.copy(15, 15), 0);
        due("copy(0, 1)", x.copy(0, 1), NONE);
        due("object(0, 0)", x.object(0, 0), REFUSED);
        due("copy(1, 1)", x.copy(1, 1), NONE);
        due("held by the copy", x.mark(), 1);
        due("object(15, 0)", x.object(15, 0), 0);
    }

    private static void dropOfNone() {
        LazyBlocks x = new LazyBlocks(1);
        due("drop(0)", x.drop(0), 0);
        makes(x, 0, 1, 0);
        x.copy(15, 0);
        due("drop(0)", x.drop(0), 1);
        due("drop(0)", x.drop(0), 0);
        due("another root stays", x.object(15, 0), 0);
        due("drop(15)", x.drop(15), 1);
        due("still there till it is swept", x.at(0), 0);
    }

    private static void watchWhetherItWas() {
        LazyBlocks x = new LazyBlocks(1);
        makes(x, 0, 0, 0);
        makes(x, 1, 0, 2);
        due("watch(0, false)", x.watch(0, false), 0);
        due("watch(0, true)", x.watch(0, true), 0);
        due("watch(0, true)", x.watch(0, true), 1);
        due("another one", x.object(1, 4), 0);
        due("count(8)", x.count(8), 1);
        x.copy(2, 0);
        due("the object, not the root", x.object(2, 4), 1);
        due("watch(2, false)", x.watch(2, false), 1);
        due("watch(0, false)", x.watch(0, false), 0);
        due("count(8)", x.count(8), 0);
    }

    private static void watchedNoMoreIsNotTold() {
        LazyBlocks x = new LazyBlocks(1);
        makes(x, 0, 0, 0);
        x.watch(0, true);
        x.watch(0, false);
        drops(x, 0);
        due("mark()", x.mark(), 0);
        due("next(0)", x.next(0), NONE);
    }

    private static void newObjectsAreNotWatched() {
        LazyBlocks x = new LazyBlocks(1);
        makes(x, 0, 15, 0);
        x.watch(0, true);
        drops(x, 0);
        x.mark();
        due("next(0)", x.next(0), 0);
        drops(x, 0);
        x.mark();
        makes(x, 1, 15, 0);
        due("in a used cell", x.object(1, 4), 0);
        due("count(8)", x.count(8), 0);
    }

    /** An object in the queue that is watched anew is there once; it comes again when it has left. */
    private static void watchedInTheQueue() {
        LazyBlocks x = new LazyBlocks(1);
        makes(x, 0, 1, 0);
        makes(x, 1, 1, 2);
        x.link(0, 0, 1, false);
        x.watch(0, true);
        x.watch(1, true);
        drops(x, 0, 1);
        x.mark();
        due("next(0)", x.next(0), 0);
        due("load(1, 0, 0)", x.load(1, 0, 0), 1);
        due("watch(1, true)", x.watch(1, true), 0);
        drops(x, 0, 1);
        due("mark()", x.mark(), 1);
        due("count(7)", x.count(7), 1);
        due("count(8)", x.count(8), 1);
        due("next(0)", x.next(0), 1);
        drops(x, 0);
        due("mark()", x.mark(), 1);
        due("next(0)", x.next(0), 1);
        due("next(0)", x.next(0), NONE);
    }

    private static void nextOfAnEmptyQueue() {
        LazyBlocks x = new LazyBlocks(1);
        due("next(0)", x.next(0), NONE);
        due("object(0, 0)", x.object(0, 0), REFUSED);
        due("BAD though the queue is empty", x.next(16), BAD);
        makes(x, 0, 0, 0);
        due("next(0)", x.next(0), NONE);
        due("the root stays", x.object(0, 0), 0);
        x.watch(0, true);
        drops(x, 0);
        x.mark();
        makes(x, 15, 0, 2);
        due("next(15)", x.next(15), 0);
        due("the root refers to it", x.object(15, 0), 0);
        due("next(15)", x.next(15), NONE);
        due("the root stays", x.object(15, 0), 0);
        due("count(7)", x.count(7), 0);
    }

    private static void nextOfALongQueue() {
        LazyBlocks x = new LazyBlocks(8);
        for (int i = 0; i < 128; i++) {
            due("make(0, 1)", x.make(0, 1), i);
            due("watch(0, true)", x.watch(0, true), 0);
        }
        drops(x, 0);
        due("mark()", x.mark(), 128);
        due("count(7)", x.count(7), 128);
        due("make(0, 0)", x.make(0, 0), FULL);
        for (int i = 0; i < 128; i++) {
            due("next(0)", x.next(0), i);
        }
        due("next(0)", x.next(0), NONE);
        due("mark()", x.mark(), 1);
    }

    private static void markOfAnEmptyHeap() {
        LazyBlocks x = new LazyBlocks(16);
        due("mark()", x.mark(), 0);
        due("mark()", x.mark(), 0);
        counts(x, 0, 0, 0, 2, 0, 16, 0, 0, 0, 0);
    }

    private static void markOfALongChain() {
        LazyBlocks x = new LazyBlocks(12);
        due("make(0, 1)", x.make(0, 1), 0);
        for (int i = 1; i < 192; i++) {
            due("make", x.make(i % 2, 1), i);
            due("link", x.link(i % 2, 0, (i + 1) % 2, false), 0);
        }
        drops(x, 0);
        due("a full heap", x.mark(), 192);
        due("make(2, 0)", x.make(2, 0), FULL);
        drops(x, 1);
        due("mark()", x.mark(), 0);
        counts(x, 192, 384, 192, 3, 24, 0, 12, 0, 0, 0);
    }

    private static void sweepTheLeastNumber() {
        LazyBlocks x = new LazyBlocks(16);
        due("sweep()", x.sweep(), NONE);
        for (int i = 0; i < 32; i++) {
            due("make(0, 15)", x.make(0, 15), i);
        }
        due("none is unswept before a mark", x.sweep(), NONE);
        due("mark()", x.mark(), 1);
        for (int b = 0; b < 16; b++) {
            due("count(6)", x.count(6), 16 - b);
            due("sweep()", x.sweep(), b);
            due("count(4)", x.count(4), b + 1);
        }
        due("sweep()", x.sweep(), NONE);
        counts(x, 1, 16, 32, 1, 16, 15, 0, 0, 0, 1);
        due("mark()", x.mark(), 1);
        due("FREE ones are passed by", x.sweep(), 15);
        due("sweep()", x.sweep(), NONE);
    }

    private static void objectAnswers() {
        LazyBlocks x = new LazyBlocks(3);
        makes(x, 0, 0, 0);
        makes(x, 1, 9, 32);
        makes(x, 15, 10, 48);
        int[] want = {2, 48, 10, 3, 0, 0};
        for (int what = 0; what < 6; what++) {
            due("object(15, " + what + ")", x.object(15, what), want[what]);
        }
        x.watch(15, true);
        due("object(15, 4)", x.object(15, 4), 1);
        due("object(1, 4)", x.object(1, 4), 0);
    }

    private static void markedSinceTheLatest() {
        LazyBlocks x = new LazyBlocks(2);
        makes(x, 0, 15, 0);
        due("before the first one", x.object(0, 5), 0);
        x.mark();
        due("object(0, 5)", x.object(0, 5), 1);
        makes(x, 1, 15, 16);
        due("made behind it", x.object(1, 5), 0);
        due("its neighbour", x.object(0, 5), 1);
        due("sweep()", x.sweep(), NONE);
        x.mark();
        due("object(1, 5)", x.object(1, 5), 1);
        due("sweep()", x.sweep(), 0);
        due("though its block was swept", x.object(1, 5), 1);
        drops(x, 0, 1);
        x.mark();
        makes(x, 2, 15, 0);
        due("made behind it in the cell of one that was marked", x.object(2, 5), 0);
    }

    private static void markedByAFullMake() {
        LazyBlocks x = new LazyBlocks(1);
        fill(x, 2);
        due("object(0, 5)", x.object(0, 5), 0);
        due("make(2, 15)", x.make(2, 15), FULL);
        due("object(0, 5)", x.object(0, 5), 1);
        drops(x, 1);
        makes(x, 2, 15, 16);
        due("made behind its own TO MARK", x.object(2, 5), 0);
    }

    private static void atTheEndsOfACell() {
        LazyBlocks x = new LazyBlocks(2);
        due("at(0) of a FREE block", x.at(0), NONE);
        makes(x, 0, 4, 0);
        makes(x, 1, 4, 8);
        due("at(0)", x.at(0), 0);
        due("a word behind its fields, in its cell", x.at(7), 0);
        due("at(8)", x.at(8), 1);
        due("at(15)", x.at(15), 1);
        due("an empty cell", x.at(16), NONE);
        due("at(31)", x.at(31), NONE);
        due("at(32)", x.at(32), NONE);
        due("at(63)", x.at(63), NONE);
        due("at(64)", x.at(64), BAD);
        due("at(-1)", x.at(-1), BAD);
    }

    private static void atInABlockOfAnotherClass() {
        LazyBlocks x = new LazyBlocks(1);
        fill(x, 2);
        drops(x, 0, 1);
        makes(x, 2, 1, 0);
        due("at(1)", x.at(1), 2);
        due("at(2)", x.at(2), NONE);
        due("at(16)", x.at(16), NONE);
        due("at(31)", x.at(31), NONE);
    }

    private static void blockAnswers() {
        LazyBlocks x = new LazyBlocks(16);
        cells(x, 0, NONE, 0, 0, 0);
        cells(x, 15, NONE, 0, 0, 0);
        fill(x, 2);
        cells(x, 0, 3, 0, 2, 0);
        x.mark();
        cells(x, 0, 3, 1, 2, 0);
        drops(x, 0, 1);
        x.mark();
        cells(x, 0, 3, 1, 2, 0);
        x.sweep();
        cells(x, 0, NONE, 0, 0, 0);
    }

    /** Each count has a number of its own here, so that no two of them can be mistaken. */
    private static void countAnswers() {
        LazyBlocks x = new LazyBlocks(16);
        for (int i = 0; i < 9; i++) {
            due("make(0, 15)", x.make(0, 15), i);
        }
        x.mark();
        due("sweep()", x.sweep(), 0);
        due("sweep()", x.sweep(), 1);
        for (int i = 0; i < 5; i++) {
            due("make", x.make(1 + i, 3), 9 + i);
            x.watch(1 + i, i < 4);
        }
        drops(x, 1, 2, 3);
        for (int i = 0; i < 6; i++) {
            due("mark()", x.mark(), 6);
        }
        counts(x, 10, 100, 14, 7, 2, 12, 4, 3, 1, 6);
        due("count(-1)", x.count(-1), BAD);
        due("count(10)", x.count(10), BAD);
    }

    private static void countOfWhatIsReached() {
        LazyBlocks x = new LazyBlocks(1);
        for (int root = 0; root < 4; root++) {
            makes(x, root, 1, 2 * root);
        }
        x.link(0, 0, 1, false);
        x.link(1, 0, 2, true);
        due("count(9)", x.count(9), 4);
        drops(x, 1, 2);
        due("not weakly", x.count(9), 3);
        due("it does not mark", x.count(3), 0);
        due("it cuts nothing", x.load(5, 1, 0), REFUSED);
        due("load(1, 0, 0)", x.load(1, 0, 0), 1);
        due("refers(1, 0)", x.refers(1, 0), 2);
        x.watch(3, true);
        drops(x, 3);
        due("a watched one is not in the queue yet", x.count(9), 2);
        x.mark();
        due("the queue", x.count(9), 3);
    }

    /** What was marked stays so till the next TO MARK, though less is reached by then, or more. */
    private static void countAndSumLeaveTheMarks() {
        LazyBlocks x = new LazyBlocks(2);
        fill(x, 2);
        x.mark();
        makes(x, 2, 15, 32);
        drops(x, 0);
        due("count(9)", x.count(9), 2);
        due("object(2, 5)", x.object(2, 5), 0);
        due("sum(2)", x.sum(2), x.sum(1));
        due("object(2, 5)", x.object(2, 5), 0);
        due("sweep()", x.sweep(), NONE);
        x.mark();
        drops(x, 1);
        due("count(9)", x.count(9), 1);
        due("sweep()", x.sweep(), 0);
        due("it was marked", x.at(16), 1);
        due("it was not", x.at(0), NONE);
    }

    private static void sameOfNone() {
        LazyBlocks x = new LazyBlocks(1);
        due("of two that refer to none", x.same(0, 15), 1);
        due("of one root that refers to none", x.same(3, 3), 1);
        makes(x, 0, 0, 0);
        due("of one and none", x.same(0, 15), 0);
        due("of none and one", x.same(15, 0), 0);
        due("of one root", x.same(0, 0), 1);
        makes(x, 15, 0, 2);
        due("of two alike", x.same(0, 15), 0);
        x.copy(15, 0);
        due("of one object", x.same(0, 15), 1);
    }

    private static void sumOfNoneAndOfNoField() {
        LazyBlocks x = new LazyBlocks(1);
        due("sum(0)", x.sum(0), 0);
        due("sum(15)", x.sum(15), 0);
        due("sum(16)", x.sum(16), -2);
        makes(x, 15, 0, 0);
        due("sum(15)", x.sum(15), 217);
        due("sum(0)", x.sum(0), 0);
    }

    private static long summed(long... terms) {
        long s = 7;
        for (long term : terms) {
            s = 31 * s + term;
        }
        return s;
    }

    private static void sumOfThriceANumber() {
        LazyBlocks x = new LazyBlocks(1);
        makes(x, 0, 2, 0);
        int[] values = {Integer.MIN_VALUE, -1, 0, 1, Integer.MAX_VALUE};
        for (int v : values) {
            x.set(0, 0, v);
            due("sum(0)", x.sum(0), summed(2, 3L * v, 0));
        }
        x.set(0, 0, 0);
        x.set(0, 1, Integer.MAX_VALUE);
        due("thrice, in 64 bits", x.sum(0), summed(2, 0, 6442450941L));
    }

    private static void sumOfWeakFields() {
        LazyBlocks x = new LazyBlocks(1);
        makes(x, 0, 2, 0);
        makes(x, 1, 2, 4);
        x.link(0, 0, 1, true);
        due("what it refers to weakly is not taken", x.sum(0), summed(2, 2, 0));
        x.link(0, 0, 0, true);
        due("itself", x.sum(0), summed(2, 2, 0));
        x.link(0, 1, 1, false);
        x.link(1, 0, 1, true);
        due("of one that is taken, too", x.sum(0), summed(2, 2, 4, 2, 2, 0));
    }

    private static void sumTakesEachOnce() {
        LazyBlocks x = new LazyBlocks(2);
        makes(x, 0, 3, 0);
        makes(x, 1, 2, 4);
        x.link(0, 0, 1, false);
        x.link(0, 1, 1, false);
        x.link(0, 2, 0, false);
        x.link(1, 0, 1, false);
        x.link(1, 1, 0, false);
        due("sum(0)", x.sum(0), summed(3, 4, 4, 1, 2, 4, 1));
        due("numbered from the root on", x.sum(1), summed(2, 1, 4, 3, 1, 1, 4));
    }

    /** a (b, c), b (d), c (e): taken as a, b, c, d, e, though names and addresses run otherwise. */
    private static void sumAsTheyAreComeTo() {
        LazyBlocks x = new LazyBlocks(2);
        for (int root = 4; root >= 0; root--) {
            x.make(root, 2);
            x.set(root, 1, 100 + root);
        }
        x.link(0, 0, 1, false);
        x.link(0, 1, 2, false);
        x.link(1, 0, 3, false);
        x.link(2, 0, 4, false);
        due("sum(0)", x.sum(0),
            summed(2, 4, 7, 2, 10, 303, 2, 13, 306, 2, 0, 309, 2, 0, 312));
    }

    private static void sumWhateverLiesWhere() {
        LazyBlocks x = new LazyBlocks(2);
        makes(x, 0, 2, 0);
        makes(x, 1, 2, 4);
        x.link(0, 1, 1, false);
        x.set(1, 0, -8);
        LazyBlocks y = new LazyBlocks(3);
        makes(y, 9, 1, 0);
        makes(y, 8, 2, 32);
        makes(y, 7, 2, 36);
        y.link(7, 1, 8, false);
        y.set(8, 0, -8);
        due("sum", y.sum(7), x.sum(0));
        long before = x.sum(0);
        x.mark();
        x.sweep();
        due("behind a mark and a sweep", x.sum(0), before);
    }

    private static void sumRunsOver() {
        LazyBlocks x = new LazyBlocks(1);
        BigInteger s = BigInteger.valueOf(7);
        for (int root = 1; root >= 0; root--) {
            x.make(root, 15);
            for (int f = 0; f < 14; f++) {
                x.set(root, f, Integer.MAX_VALUE - f);
            }
        }
        x.link(0, 14, 1, false);
        for (int object = 0; object < 2; object++) {
            s = s.multiply(BigInteger.valueOf(31)).add(BigInteger.valueOf(15));
            for (int f = 0; f < 15; f++) {
                long term = f < 14 ? 3L * (Integer.MAX_VALUE - f) : object == 0 ? 4 : 0;
                s = s.multiply(BigInteger.valueOf(31)).add(BigInteger.valueOf(term));
            }
        }
        due("more than 64 bits", s.bitLength() > 64 ? 1 : 0, 1);
        due("sum(0)", x.sum(0), s.longValue());
    }

    public static void main(String[] args) {
        holds("1: below 1 counts as 1", EdgesTest::below1CountsAs1);
        holds("1: above 16 as 16", EdgesTest::above16CountsAs16);
        holds("1: A heap of FREE blocks", EdgesTest::aHeapOfFreeBlocks);
        holds("1: A new object", EdgesTest::twoHeapsShareNothing);
        holds("2: n is 0 .. 15", EdgesTest::makeOf0And15Fields);
        holds("2: which a root refers to then", EdgesTest::whichARootRefersToThen);
        holds("2: THEN: the root's former object is held till then", EdgesTest::theRootHoldsWhileItMakes);
        holds("2: FULL: one block", EdgesTest::fullOneBlock);
        holds("2: FULL: for one class only", EdgesTest::fullForOneClassOnly);
        holds("2: FULL: of what the queue holds", EdgesTest::fullOfWhatTheQueueHolds);
        holds("2: not FULL: of what nobody holds", EdgesTest::fullOfGarbage);
        holds("2: FULL (at once if 2000 were made)", EdgesTest::fullAtOnceIf2000WereMade);
        holds("3: A field gets a number", EdgesTest::setEdges);
        holds("3: and refers no more", EdgesTest::setEndsAReference);
        holds("3: A field of a root's object, no other one", EdgesTest::fieldsOfNeighboursStayApart);
        holds("4: what a root (perhaps the same) refers to", EdgesTest::linkPerhapsTheSame);
        holds("4: comes to refer, weakly or not", EdgesTest::linkToAnObjectNotARoot);
        holds("5: a number (0), refers (1), or refers weakly (2)", EdgesTest::refersOfEachKind);
        holds("6: 0 if it refers", EdgesTest::numberIs0IfItRefers);
        holds("7: (weakly, too)", EdgesTest::loadWeaklyToo);
        holds("7: A root comes to refer to it: the same root", EdgesTest::loadIntoTheRootItself);
        holds("8: to none if that does: NONE", EdgesTest::copyOfNone);
        holds("9: whether it referred to an object (1, 0)", EdgesTest::dropOfNone);
        holds("10: whether it was (1, 0)", EdgesTest::watchWhetherItWas);
        holds("10: or no more", EdgesTest::watchedNoMoreIsNotTold);
        holds("10: A root's object is WATCHED, no later one in its cell", EdgesTest::newObjectsAreNotWatched);
        holds("10: watched in the queue", EdgesTest::watchedInTheQueue);
        holds("11: NONE: the queue is empty (the root stays)", EdgesTest::nextOfAnEmptyQueue);
        holds("11: The first object leaves THE QUEUE", EdgesTest::nextOfALongQueue);
        holds("12: how many are marked: an empty heap", EdgesTest::markOfAnEmptyHeap);
        holds("12: how many are marked: a full heap", EdgesTest::markOfALongChain);
        holds("13: The unswept block with the least number; NONE", EdgesTest::sweepTheLeastNumber);
        holds("14: Of a root's object", EdgesTest::objectAnswers);
        holds("14: 0 of what was made behind it", EdgesTest::markedSinceTheLatest);
        holds("14: marked since the latest TO MARK, make's too", EdgesTest::markedByAFullMake);
        holds("15: in whose cell a word lies; NONE", EdgesTest::atTheEndsOfACell);
        holds("15: NONE of words that a former class's cells had", EdgesTest::atInABlockOfAnotherClass);
        holds("16: NONE: FREE; 0 of a FREE one", EdgesTest::blockAnswers);
        holds("17: What = 0 .. 9", EdgesTest::countAnswers);
        holds("17: 9 objects that roots and the queue reach, not weakly", EdgesTest::countOfWhatIsReached);
        holds("17, 19: no TO MARK", EdgesTest::countAndSumLeaveTheMarks);
        holds("18: of two that refer to none 1", EdgesTest::sameOfNone);
        holds("19: 0 if it refers to none", EdgesTest::sumOfNoneAndOfNoField);
        holds("19: thrice its number", EdgesTest::sumOfThriceANumber);
        holds("19: or 2 if it refers weakly", EdgesTest::sumOfWeakFields);
        holds("19: each once, numbered so from 0 on", EdgesTest::sumTakesEachOnce);
        holds("19: objects taken as they are come to", EdgesTest::sumAsTheyAreComeTo);
        holds("19: whatever lies where", EdgesTest::sumWhateverLiesWhere);
        holds("19: in 64 bits that run over", EdgesTest::sumRunsOver);
        end();
    }
}
