import java.math.BigInteger;

/** For each promise of the document: ordinary inputs, the edges that it names, and wrong inputs. */
public final class PromisesTest extends Due {
    private static void newObject() {
        int[][] sizes = {
            {Integer.MIN_VALUE, 1}, {-1, 1}, {0, 1}, {1, 1}, {2, 2}, {15, 15}, {16, 16}, {17, 16},
            {Integer.MAX_VALUE, 16},
        };
        for (int[] size : sizes) {
            LazyBlocks x = new LazyBlocks(size[0]);
            counts(x, 0, 0, 0, 0, 0, size[1], 0, 0, 0, 0);
            due("last word", x.at(32 * size[1] - 1), -1);
            due("no such word", x.at(32 * size[1]), -2);
            cells(x, size[1] - 1, -1, 0, 0, 0);
            due("no such block", x.block(size[1], 0), -2);
            for (int root = 0; root < 16; root++) {
                due("object(" + root + ", 0)", x.object(root, 0), -3);
            }
        }
    }

    private static void makeClasses() {
        int[] classes = {0, 0, 1, 1, 2, 2, 2, 2, 3, 3, 3, 3, 3, 3, 3, 3};
        for (int n = 0; n < 16; n++) {
            LazyBlocks x = new LazyBlocks(1);
            due("make(15, " + n + ")", x.make(15, n), 0);
            due("fields", x.object(15, 2), n);
            due("class", x.object(15, 3), classes[n]);
            cells(x, 0, classes[n], 0, 1, (16 >> classes[n]) - 1);
            due("words", x.count(1), 2 << classes[n]);
            for (int f = 0; f < 15; f++) {
                due("refers(15, " + f + ")", x.refers(15, f), f < n ? 0 : -2);
                due("number(15, " + f + ")", x.number(15, f), 0);
            }
        }
    }

    private static void makeWrong() {
        LazyBlocks x = new LazyBlocks(1);
        due("make(-1, 0)", x.make(-1, 0), -2);
        due("make(16, 0)", x.make(16, 0), -2);
        due("make(0, -1)", x.make(0, -1), -2);
        due("make(0, 16)", x.make(0, 16), -2);
        due("make(MAX, MIN)", x.make(Integer.MAX_VALUE, Integer.MIN_VALUE), -2);
        counts(x, 0, 0, 0, 0, 0, 1, 0, 0, 0, 0);
        makes(x, 0, 15, 0);
        makes(x, 1, 15, 16);
        due("make(0, 15)", x.make(0, 15), -4);
        due("the root stays", x.object(0, 0), 0);
        counts(x, 2, 32, 2, 1, 1, 0, 0, 0, 0, 2);
        due("BAD before FULL", x.make(16, 15), -2);
        counts(x, 2, 32, 2, 1, 1, 0, 0, 0, 0, 2);
    }

    /** A cell that is used once more has none of the former object's fields. */
    private static void makeInUsedCell() {
        LazyBlocks x = new LazyBlocks(1);
        makes(x, 0, 3, 0);
        x.set(0, 0, 77);
        x.link(0, 1, 0, false);
        x.link(0, 2, 0, true);
        x.drop(0);
        x.mark();
        makes(x, 5, 3, 0);
        for (int f = 0; f < 3; f++) {
            due("refers(5, " + f + ")", x.refers(5, f), 0);
            due("number(5, " + f + ")", x.number(5, f), 0);
        }
        due("not watched", x.object(5, 4), 0);
        due("not marked", x.object(5, 5), 0);
    }

    private static void makeSweepsItsClass() {
        LazyBlocks x = new LazyBlocks(4);
        fill(x, 6);
        x.drop(0);
        x.drop(3);
        x.drop(5);
        due("mark()", x.mark(), 3);
        makes(x, 6, 15, 0);
        cells(x, 0, 3, 0, 2, 0);
        cells(x, 1, 3, 1, 2, 0);
        counts(x, 6, 96, 7, 1, 1, 1, 2, 0, 0, 4);
        makes(x, 7, 15, 48);
        cells(x, 2, 3, 1, 2, 0);
        makes(x, 8, 15, 80);
        counts(x, 6, 96, 9, 1, 3, 1, 0, 0, 0, 6);
        makes(x, 9, 15, 96);
        counts(x, 7, 112, 10, 1, 3, 0, 0, 0, 0, 7);
    }

    private static void makeGoesPastFullBlocks() {
        LazyBlocks x = new LazyBlocks(4);
        fill(x, 6);
        x.drop(2);
        x.mark();
        makes(x, 2, 15, 32);
        cells(x, 0, 3, 0, 2, 0);
        cells(x, 1, 3, 0, 2, 0);
        cells(x, 2, 3, 1, 2, 0);
        counts(x, 6, 96, 7, 1, 2, 1, 1);
    }

    /** An empty cell of an unswept block is had by the sweep of that block only. */
    private static void makeSweepsForEmptyCell() {
        LazyBlocks x = new LazyBlocks(3);
        makes(x, 0, 15, 0);
        x.mark();
        makes(x, 1, 15, 16);
        due("swept for its empty cell", x.count(4), 1);
        makes(x, 2, 15, 32);
        x.drop(0);
        x.mark();
        due("sweep()", x.sweep(), 0);
        x.mark();
        makes(x, 3, 1, 64);
        due("sweep()", x.sweep(), 0);
        due("sweep()", x.sweep(), 1);
        makes(x, 4, 15, 0);
        makes(x, 5, 15, 48);
        counts(x, 5, 66, 6, 3, 4, 0, 0);
    }

    /** The block of its own class that falls FREE is not the one taken if a FREE one lies before it. */
    private static void makeTakesLeastFree() {
        LazyBlocks x = new LazyBlocks(3);
        makes(x, 0, 7, 0);
        makes(x, 1, 15, 32);
        makes(x, 2, 15, 48);
        x.drop(0);
        x.drop(1);
        x.drop(2);
        due("mark()", x.mark(), 0);
        due("sweep()", x.sweep(), 0);
        cells(x, 0, -1, 0, 0, 0);
        makes(x, 3, 15, 0);
        cells(x, 0, 3, 0, 1, 1);
        cells(x, 1, -1, 0, 0, 0);
        cells(x, 2, -1, 0, 0, 0);
        counts(x, 1, 16, 4, 1, 2, 2, 0);
    }

    private static void makeStopsAtFree() {
        LazyBlocks x = new LazyBlocks(4);
        fill(x, 6);
        x.drop(2);
        x.drop(3);
        x.drop(5);
        x.mark();
        makes(x, 2, 15, 32);
        cells(x, 0, 3, 0, 2, 0);
        cells(x, 1, 3, 0, 1, 1);
        cells(x, 2, 3, 1, 2, 0);
        counts(x, 5, 80, 7, 1, 2, 1, 1);
    }

    private static void makeSweepsOtherClasses() {
        LazyBlocks x = new LazyBlocks(4);
        makes(x, 0, 1, 0);
        makes(x, 1, 3, 32);
        makes(x, 2, 7, 64);
        makes(x, 3, 7, 72);
        makes(x, 4, 15, 96);
        x.drop(1);
        x.drop(2);
        x.drop(4);
        due("mark()", x.mark(), 2);
        due("make(5, 15)", x.make(5, 15), 5);
        due("its own FREE block", x.object(5, 1), 96);
        counts(x, 5, 38, 6, 1, 1, 0, 3);
        makes(x, 6, 15, 112);
        makes(x, 7, 15, 32);
        counts(x, 6, 66, 8, 1, 3, 0, 1);
        cells(x, 0, 0, 0, 1, 15);
        cells(x, 1, 3, 0, 1, 1);
        cells(x, 2, 2, 1, 2, 2);
    }

    private static void makeMarksThenOnceMore() {
        LazyBlocks x = new LazyBlocks(2);
        makes(x, 0, 15, 0);
        makes(x, 1, 15, 16);
        makes(x, 2, 3, 32);
        x.copy(3, 0);
        x.drop(0);
        x.drop(2);
        makes(x, 4, 15, 32);
        counts(x, 3, 48, 4, 1, 2, 0, 0);
        x.drop(1);
        due("make(5, 3)", x.make(5, 3), -4);
        counts(x, 2, 32, 4, 2, 4, 0, 0);
        cells(x, 0, 3, 0, 1, 1);
        cells(x, 1, 3, 0, 1, 1);
        due("the root's object is held while it is made", x.make(3, 3), -4);
        due("object(3, 0)", x.object(3, 0), 0);
    }

    private static void setAndNumber() {
        LazyBlocks x = new LazyBlocks(2);
        makes(x, 0, 15, 0);
        due("set", x.set(0, 0, Integer.MIN_VALUE), 0);
        due("set", x.set(0, 14, Integer.MAX_VALUE), 0);
        due("number", x.number(0, 0), Integer.MIN_VALUE);
        due("number", x.number(0, 14), Integer.MAX_VALUE);
        due("number", x.number(0, 13), 0);
        makes(x, 3, 15, 16);
        x.link(0, 0, 3, true);
        due("number of a weak one", x.number(0, 0), 0);
        x.link(0, 14, 3, false);
        due("number of one that refers", x.number(0, 14), 0);
        due("set", x.set(0, 14, -5), 0);
        due("refers", x.refers(0, 14), 0);
        due("number", x.number(0, 14), -5);
        makes(x, 1, 2, 32);
        due("set past its fields", x.set(1, 2, 1), -2);
        due("set(0, 15)", x.set(0, 15, 1), -2);
        due("set(0, -1)", x.set(0, -1, 1), -2);
        due("set(16, 0)", x.set(16, 0, 1), -2);
        due("set(-1, 0)", x.set(-1, 0, 1), -2);
        due("set(2, 15) BAD before REFUSED", x.set(2, 15, 1), -2);
        due("set(2, 14)", x.set(2, 14, 1), -3);
        due("number past its fields", x.number(1, 2), 0);
        due("number(0, 15)", x.number(0, 15), 0);
        due("number(0, -1)", x.number(0, -1), 0);
        due("number(16, 0)", x.number(16, 0), 0);
        due("number(-1, 0)", x.number(-1, 0), 0);
        due("number(2, 0)", x.number(2, 0), 0);
    }

    private static void linkAndRefers() {
        LazyBlocks x = new LazyBlocks(2);
        makes(x, 0, 3, 0);
        makes(x, 1, 1, 32);
        due("link to another", x.link(0, 0, 1, false), 0);
        due("link to itself", x.link(0, 1, 0, true), 0);
        due("refers", x.refers(0, 0), 1);
        due("refers weakly", x.refers(0, 1), 2);
        due("refers not", x.refers(0, 2), 0);
        due("link instead", x.link(0, 0, 1, true), 0);
        due("refers weakly", x.refers(0, 0), 2);
        due("link(0, 3)", x.link(0, 3, 1, false), -2);
        due("link(0, -1)", x.link(0, -1, 1, false), -2);
        due("link(0, 15)", x.link(0, 15, 1, false), -2);
        due("link(16, 0)", x.link(16, 0, 1, false), -2);
        due("link(-1, 0)", x.link(-1, 0, 1, false), -2);
        due("link(0, 0, 16)", x.link(0, 0, 16, false), -2);
        due("link(0, 0, -1)", x.link(0, 0, -1, true), -2);
        due("link(2, 0, 16) BAD before REFUSED", x.link(2, 0, 16, true), -2);
        due("link(0, 3, 2) BAD before REFUSED", x.link(0, 3, 2, true), -2);
        due("link(2, 15, 0) BAD before REFUSED", x.link(2, 15, 0, true), -2);
        due("link(2, 0, 0)", x.link(2, 0, 0, true), -3);
        due("link(0, 0, 2)", x.link(0, 0, 2, false), -3);
        due("stays", x.refers(0, 0), 2);
        due("refers(0, 3)", x.refers(0, 3), -2);
        due("refers(0, 15)", x.refers(0, 15), -2);
        due("refers(0, -1)", x.refers(0, -1), -2);
        due("refers(16, 0)", x.refers(16, 0), -2);
        due("refers(-1, 0)", x.refers(-1, 0), -2);
        due("refers(2, 15) BAD before REFUSED", x.refers(2, 15), -2);
        due("refers(2, 14)", x.refers(2, 14), -3);
    }

    private static void loadAndCopy() {
        LazyBlocks x = new LazyBlocks(2);
        makes(x, 0, 3, 0);
        makes(x, 1, 1, 32);
        x.link(0, 0, 1, false);
        x.link(0, 1, 0, true);
        due("load", x.load(5, 0, 0), 1);
        due("is it", x.same(5, 1), 1);
        due("load weakly", x.load(5, 0, 1), 0);
        due("is it", x.same(5, 0), 1);
        due("load a number", x.load(5, 0, 2), -3);
        due("stays", x.object(5, 0), 0);
        due("load from none", x.load(5, 9, 0), -3);
        due("load(16, 0, 0)", x.load(16, 0, 0), -2);
        due("load(-1, 0, 0)", x.load(-1, 0, 0), -2);
        due("load(5, 16, 0)", x.load(5, 16, 0), -2);
        due("load(5, -1, 0)", x.load(5, -1, 0), -2);
        due("load(5, 0, 3)", x.load(5, 0, 3), -2);
        due("load(5, 0, 15)", x.load(5, 0, 15), -2);
        due("load(5, 0, -1)", x.load(5, 0, -1), -2);
        due("load(16, 9, 0) BAD before REFUSED", x.load(16, 9, 0), -2);
        due("load(5, 9, 15) BAD before REFUSED", x.load(5, 9, 15), -2);
        due("load(16, 0, 2) BAD before REFUSED", x.load(16, 0, 2), -2);
        due("load into the same root", x.load(0, 0, 0), 1);
        due("object(0, 0)", x.object(0, 0), 1);
        due("copy", x.copy(2, 0), 1);
        due("copy to itself", x.copy(2, 2), 1);
        due("copy of none", x.copy(2, 9), -1);
        due("refers to none", x.object(2, 0), -3);
        due("copy(16, 0)", x.copy(16, 0), -2);
        due("copy(-1, 0)", x.copy(-1, 0), -2);
        due("copy(0, 16)", x.copy(0, 16), -2);
        due("copy(0, -1)", x.copy(0, -1), -2);
        due("stays", x.object(0, 0), 1);
    }

    /** What lies in a weak field only can be had until it is found not to be reached. */
    private static void loadWeaklyHeld() {
        LazyBlocks x = new LazyBlocks(1);
        makes(x, 0, 1, 0);
        makes(x, 1, 1, 2);
        x.link(0, 0, 1, true);
        x.drop(1);
        due("load", x.load(2, 0, 0), 1);
        due("mark()", x.mark(), 2);
        due("refers", x.refers(0, 0), 2);
        x.drop(2);
        due("mark()", x.mark(), 1);
        due("load", x.load(2, 0, 0), -3);
    }

    private static void dropAndSame() {
        LazyBlocks x = new LazyBlocks(1);
        makes(x, 0, 1, 0);
        makes(x, 15, 1, 2);
        due("same", x.same(0, 15), 0);
        due("same", x.same(0, 0), 1);
        due("same", x.same(0, 3), 0);
        due("same", x.same(3, 0), 0);
        due("same", x.same(3, 4), 1);
        x.copy(3, 15);
        due("same", x.same(3, 15), 1);
        due("same(16, 0)", x.same(16, 0), -2);
        due("same(0, 16)", x.same(0, 16), -2);
        due("same(-1, 0)", x.same(-1, 0), -2);
        due("same(0, -1)", x.same(0, -1), -2);
        due("drop(15)", x.drop(15), 1);
        due("drop(15)", x.drop(15), 0);
        due("object(15, 0)", x.object(15, 0), -3);
        due("another root stays", x.object(3, 0), 1);
        due("drop(16)", x.drop(16), -2);
        due("drop(-1)", x.drop(-1), -2);
    }

    private static void watchOn() {
        LazyBlocks x = new LazyBlocks(1);
        makes(x, 0, 1, 0);
        due("watch", x.watch(0, false), 0);
        due("watch", x.watch(0, true), 0);
        due("watch", x.watch(0, true), 1);
        due("object(0, 4)", x.object(0, 4), 1);
        due("count(8)", x.count(8), 1);
        due("mark()", x.mark(), 1);
        due("a marked one stays watched", x.object(0, 4), 1);
        due("count(7)", x.count(7), 0);
        due("watch", x.watch(0, false), 1);
        due("watch", x.watch(0, false), 0);
        due("count(8)", x.count(8), 0);
        due("watch(1)", x.watch(1, true), -3);
        due("watch(16)", x.watch(16, true), -2);
        due("watch(-1)", x.watch(-1, false), -2);
        x.drop(0);
        due("mark()", x.mark(), 0);
        due("next", x.next(0), -1);
    }

    /** Names come in their order though the addresses run the other way, behind those of before. */
    private static void nextByNames() {
        LazyBlocks x = new LazyBlocks(2);
        makes(x, 0, 7, 0);
        makes(x, 1, 7, 8);
        makes(x, 2, 7, 16);
        x.drop(0);
        x.mark();
        makes(x, 3, 7, 0);
        x.watch(3, true);
        x.watch(2, true);
        x.watch(1, true);
        x.drop(2);
        due("mark()", x.mark(), 3);
        counts(x, 3, 24, 4, 2, 1, 1, 1, 1, 2, 3);
        x.drop(3);
        x.drop(1);
        due("mark()", x.mark(), 3);
        counts(x, 3, 24, 4, 3, 1, 1, 1, 3, 0, 3);
        due("next(16)", x.next(16), -2);
        due("next(-1)", x.next(-1), -2);
        due("next(15)", x.next(15), 2);
        due("its root", x.object(15, 1), 16);
        due("count(7)", x.count(7), 2);
        due("next(15)", x.next(15), 1);
        due("next(15)", x.next(15), 3);
        due("its root", x.object(15, 1), 0);
        due("next(15)", x.next(15), -1);
        due("the root stays", x.object(15, 0), 3);
        due("BAD though the queue is empty", x.next(16), -2);
    }

    /** Watched objects that refer to one another are told of all together. */
    private static void nextOfWatchedPair() {
        LazyBlocks x = new LazyBlocks(2);
        makes(x, 0, 1, 0);
        makes(x, 1, 1, 2);
        x.link(0, 0, 1, false);
        x.link(1, 0, 0, false);
        x.watch(0, true);
        x.watch(1, true);
        x.drop(0);
        x.drop(1);
        due("mark()", x.mark(), 2);
        counts(x, 2, 4, 2, 1, 0, 1, 1, 2, 0, 2);
        due("next", x.next(0), 0);
        due("load", x.load(1, 0, 0), 1);
        due("watched in the queue", x.watch(1, true), 0);
        x.drop(0);
        x.drop(1);
        due("mark()", x.mark(), 2);
        counts(x, 2, 4, 2, 2, 0, 1, 1, 1, 1, 2);
        due("next", x.next(0), 1);
        x.drop(0);
        due("mark()", x.mark(), 2);
        due("told of once more", x.next(0), 1);
        due("next", x.next(0), -1);
    }

    private static void markWeakFields() {
        LazyBlocks x = new LazyBlocks(4);
        makes(x, 0, 3, 0);
        makes(x, 1, 3, 4);
        makes(x, 2, 3, 8);
        makes(x, 3, 3, 12);
        makes(x, 4, 3, 16);
        x.link(0, 0, 1, true);
        x.link(0, 1, 2, true);
        x.link(0, 2, 3, true);
        x.watch(1, true);
        x.link(1, 0, 2, false);
        x.link(1, 1, 3, true);
        x.link(1, 2, 4, true);
        x.drop(1);
        x.drop(2);
        x.drop(3);
        due("count(9)", x.count(9), 2);
        due("mark()", x.mark(), 4);
        for (int f = 0; f < 3; f++) {
            due("cut before watched ones are marked", x.refers(0, f), 0);
            due("number", x.number(0, f), 0);
        }
        due("next", x.next(1), 1);
        due("kept by a watched one", x.refers(1, 0), 1);
        due("cut behind watched ones", x.refers(1, 1), 0);
        due("kept by a root", x.refers(1, 2), 2);
        due("object(1, 5)", x.object(1, 5), 1);
        due("not swept yet", x.at(12), 3);
        due("sweep()", x.sweep(), 0);
        due("swept", x.at(12), -1);
        due("kept", x.at(11), 2);
    }

    private static void markDeep() {
        LazyBlocks x = new LazyBlocks(16);
        makes(x, 0, 1, 0);
        for (int i = 1; i < 192; i++) {
            due("make", x.make(i % 2, 1), i);
            due("link", x.link(i % 2, 0, (i + 1) % 2, false), 0);
        }
        x.drop(0);
        due("count(9)", x.count(9), 192);
        due("mark()", x.mark(), 192);
        x.drop(1);
        due("mark()", x.mark(), 0);
        counts(x, 192, 384, 192, 2, 0, 4, 12, 0, 0, 0);
        due("mark()", x.mark(), 0);
        for (int b = 0; b < 12; b++) {
            due("sweep()", x.sweep(), b);
        }
        due("sweep()", x.sweep(), -1);
        counts(x, 0, 0, 192, 3, 12, 16, 0, 0, 0, 0);
    }

    private static void sweepByNumbers() {
        LazyBlocks x = new LazyBlocks(3);
        due("sweep()", x.sweep(), -1);
        makes(x, 0, 1, 0);
        makes(x, 1, 3, 32);
        due("sweep() before a mark", x.sweep(), -1);
        x.mark();
        makes(x, 2, 0, 2);
        due("sweep()", x.sweep(), 1);
        due("sweep()", x.sweep(), -1);
        counts(x, 3, 8, 3, 1, 2, 1, 0);
        x.drop(2);
        due("sweep() of a swept one", x.sweep(), -1);
        due("made behind the mark, it stays", x.at(3), 2);
        x.mark();
        due("sweep()", x.sweep(), 0);
        due("gone", x.at(3), -1);
        cells(x, 0, 0, 0, 1, 15);
        cells(x, 1, 1, 1, 1, 7);
        cells(x, 2, -1, 0, 0, 0);
    }

    private static void objectTells() {
        LazyBlocks x = new LazyBlocks(3);
        makes(x, 0, 9, 0);
        makes(x, 1, 5, 32);
        due("object(1, 0)", x.object(1, 0), 1);
        due("object(1, 1)", x.object(1, 1), 32);
        due("object(1, 2)", x.object(1, 2), 5);
        due("object(1, 3)", x.object(1, 3), 2);
        due("object(1, 4)", x.object(1, 4), 0);
        due("object(1, 5)", x.object(1, 5), 0);
        x.mark();
        due("object(1, 5)", x.object(1, 5), 1);
        x.sweep();
        x.sweep();
        due("marked though its block was swept", x.object(1, 5), 1);
        makes(x, 2, 5, 40);
        due("object(2, 5)", x.object(2, 5), 0);
        x.mark();
        due("object(2, 5)", x.object(2, 5), 1);
        due("object(1, 6)", x.object(1, 6), -2);
        due("object(1, -1)", x.object(1, -1), -2);
        due("object(16, 0)", x.object(16, 0), -2);
        due("object(-1, 0)", x.object(-1, 0), -2);
        due("object(5, 6) BAD before REFUSED", x.object(5, 6), -2);
        due("object(5, 5)", x.object(5, 5), -3);
    }

    private static void atWords() {
        LazyBlocks x = new LazyBlocks(2);
        makes(x, 0, 4, 0);
        makes(x, 1, 4, 8);
        makes(x, 2, 15, 32);
        for (int w = 0; w < 64; w++) {
            int want = w < 8 ? 0 : w < 16 ? 1 : w < 32 ? -1 : w < 48 ? 2 : -1;
            due("at(" + w + ")", x.at(w), want);
        }
        due("at(64)", x.at(64), -2);
        due("at(-1)", x.at(-1), -2);
        due("at(MAX)", x.at(Integer.MAX_VALUE), -2);
        due("at(MIN)", x.at(Integer.MIN_VALUE), -2);
        x.drop(0);
        x.mark();
        due("still there", x.at(7), 0);
        x.sweep();
        due("gone", x.at(7), -1);
    }

    private static void blockAndCountWrong() {
        LazyBlocks x = new LazyBlocks(2);
        due("block(2, 0)", x.block(2, 0), -2);
        due("block(-1, 0)", x.block(-1, 0), -2);
        due("block(0, 4)", x.block(0, 4), -2);
        due("block(0, -1)", x.block(0, -1), -2);
        due("block(1, 3)", x.block(1, 3), 0);
        due("count(10)", x.count(10), -2);
        due("count(-1)", x.count(-1), -2);
        due("count(MAX)", x.count(Integer.MAX_VALUE), -2);
    }

    private static void countLeavesMarks() {
        LazyBlocks x = new LazyBlocks(2);
        makes(x, 0, 3, 0);
        makes(x, 1, 3, 4);
        x.link(0, 0, 1, true);
        x.drop(1);
        x.mark();
        makes(x, 2, 3, 4);
        x.link(2, 0, 0, false);
        due("count(9)", x.count(9), 2);
        due("sum", x.sum(2) == 0 ? 1 : 0, 0);
        due("object(2, 5)", x.object(2, 5), 0);
        due("object(0, 5)", x.object(0, 5), 1);
        x.link(0, 1, 2, true);
        x.drop(2);
        due("count(9)", x.count(9), 1);
        due("no field is cut", x.refers(0, 1), 2);
    }

    private static void sums() {
        LazyBlocks x = new LazyBlocks(4);
        due("sum(0)", x.sum(0), 0);
        due("sum(16)", x.sum(16), -2);
        due("sum(-1)", x.sum(-1), -2);
        x.make(0, 0);
        due("sum(0)", x.sum(0), 31 * 7);
        x.make(1, 1);
        due("sum(1)", x.sum(1), 31 * (31 * 7 + 1));
        x.set(1, 0, Integer.MIN_VALUE);
        due("sum(1)", x.sum(1), 6758L + 3L * Integer.MIN_VALUE);
        x.set(1, 0, Integer.MAX_VALUE);
        due("sum(1)", x.sum(1), 6758L + 3L * Integer.MAX_VALUE);
        x.link(1, 0, 1, true);
        due("sum(1)", x.sum(1), 6758L + 2);
        x.link(1, 0, 1, false);
        due("sum(1)", x.sum(1), 6758L + 1);
        x.link(1, 0, 0, false);
        due("sum(1)", x.sum(1), 31 * (6758L + 4));
        x.make(2, 2);
        x.link(2, 0, 0, true);
        x.link(2, 1, 0, false);
        due("a weak field adds 2, come to or not", x.sum(2), 31 * (31 * (31 * (31 * 7 + 2) + 2) + 4));
    }

    /** Root a (fields b, c, a), b (fields d, c), c (no fields), d (one number): taken as a, b, c, d. */
    private static void sumInOrder() {
        LazyBlocks x = new LazyBlocks(4);
        x.make(3, 1);
        x.make(2, 0);
        x.make(1, 2);
        x.make(0, 3);
        x.set(3, 0, -4);
        x.link(0, 0, 1, false);
        x.link(0, 1, 2, false);
        x.link(0, 2, 0, false);
        x.link(1, 0, 3, false);
        x.link(1, 1, 2, false);
        long[] terms = {3, 4, 7, 1, 2, 10, 7, 0, 1, -12};
        long s = 7;
        for (long term : terms) {
            s = 31 * s + term;
        }
        due("sum(0)", x.sum(0), s);
        x.link(0, 3, 0, false);
        due("a wrong call changes nothing", x.sum(0), s);
    }

    private static void sumRunsOver() {
        LazyBlocks x = new LazyBlocks(1);
        x.make(0, 15);
        BigInteger s = BigInteger.valueOf(7 * 31 + 15);
        for (int f = 0; f < 15; f++) {
            int v = Integer.MAX_VALUE - f;
            x.set(0, f, v);
            s = s.multiply(BigInteger.valueOf(31)).add(BigInteger.valueOf(3L * v));
        }
        due("sum(0)", x.sum(0), s.longValue());
    }

    private static void constants() {
        due("NONE", LazyBlocks.NONE, -1);
        due("BAD", LazyBlocks.BAD, -2);
        due("REFUSED", LazyBlocks.REFUSED, -3);
        due("FULL", LazyBlocks.FULL, -4);
    }

    public static void main(String[] args) {
        holds("constants", PromisesTest::constants);
        holds("1 new object", PromisesTest::newObject);
        holds("2 make: classes", PromisesTest::makeClasses);
        holds("2 make: wrong inputs, FULL", PromisesTest::makeWrong);
        holds("2 make: used cell", PromisesTest::makeInUsedCell);
        holds("2 make: sweeps its class", PromisesTest::makeSweepsItsClass);
        holds("2 make: past full blocks", PromisesTest::makeGoesPastFullBlocks);
        holds("2 make: sweeps for an empty cell", PromisesTest::makeSweepsForEmptyCell);
        holds("2 make: least FREE", PromisesTest::makeTakesLeastFree);
        holds("2 make: stops at FREE", PromisesTest::makeStopsAtFree);
        holds("2 make: sweeps other classes", PromisesTest::makeSweepsOtherClasses);
        holds("2 make: marks", PromisesTest::makeMarksThenOnceMore);
        holds("3 set, 6 number", PromisesTest::setAndNumber);
        holds("4 link, 5 refers", PromisesTest::linkAndRefers);
        holds("7 load, 8 copy", PromisesTest::loadAndCopy);
        holds("7 load: weakly held", PromisesTest::loadWeaklyHeld);
        holds("9 drop, 18 same", PromisesTest::dropAndSame);
        holds("10 watch", PromisesTest::watchOn);
        holds("11 next: by names", PromisesTest::nextByNames);
        holds("11 next: pair", PromisesTest::nextOfWatchedPair);
        holds("12 mark: weak fields", PromisesTest::markWeakFields);
        holds("12 mark: deep", PromisesTest::markDeep);
        holds("13 sweep", PromisesTest::sweepByNumbers);
        holds("14 object", PromisesTest::objectTells);
        holds("15 at", PromisesTest::atWords);
        holds("16 block, 17 count: wrong inputs", PromisesTest::blockAndCountWrong);
        holds("17 count: leaves marks", PromisesTest::countLeavesMarks);
        holds("19 sum", PromisesTest::sums);
        holds("19 sum: order", PromisesTest::sumInOrder);
        holds("19 sum: runs over", PromisesTest::sumRunsOver);
        end();
    }
}
