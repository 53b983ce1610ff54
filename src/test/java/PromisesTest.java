/** Longer runs in which several promises meet; single sentences are in TermsTest, EdgesTest and RefusalsTest. */
public final class PromisesTest extends Due {
    private static void makeSweepsItsClass() {
        LazyBlocks x = new LazyBlocks(4);
        fill(x, 6);
        x.drop(0);
        x.drop(3);
        x.drop(5);
        due("mark()", x.mark(), 3);
        makes(x, 6, 15, 0);
        cells(x, 0, 3, 0, 2, 0);
        cells(x, 1, 3, 1, 2, 0);
        counts(x, 6, 96, 7, 1, 1, 1, 2, 0, 0, 4);
        makes(x, 7, 15, 48);
        cells(x, 2, 3, 1, 2, 0);
        makes(x, 8, 15, 80);
        counts(x, 6, 96, 9, 1, 3, 1, 0, 0, 0, 6);
        makes(x, 9, 15, 96);
        counts(x, 7, 112, 10, 1, 3, 0, 0, 0, 0, 7);
    }

    /** An empty cell of an unswept block is had by the sweep of that block only. */
    private static void makeSweepsForEmptyCell() {
        LazyBlocks x = new LazyBlocks(3);
        makes(x, 0, 15, 0);
        x.mark();
        makes(x, 1, 15, 16);
        due("swept for its empty cell", x.count(4), 1);
        makes(x, 2, 15, 32);
        x.drop(0);
        x.mark();
        due("sweep()", x.sweep(), 0);
        x.mark();
        makes(x, 3, 1, 64);
        due("sweep()", x.sweep(), 0);
        due("sweep()", x.sweep(), 1);
        makes(x, 4, 15, 0);
        makes(x, 5, 15, 48);
        counts(x, 5, 66, 6, 3, 4, 0, 0);
    }

    private static void makeSweepsOtherClasses() {
        LazyBlocks x = new LazyBlocks(4);
        makes(x, 0, 1, 0);
        makes(x, 1, 3, 32);
        makes(x, 2, 7, 64);
        makes(x, 3, 7, 72);
        makes(x, 4, 15, 96);
        x.drop(1);
        x.drop(2);
        x.drop(4);
        due("mark()", x.mark(), 2);
        due("make(5, 15)", x.make(5, 15), 5);
        due("its own FREE block", x.object(5, 1), 96);
        counts(x, 5, 38, 6, 1, 1, 0, 3);
        makes(x, 6, 15, 112);
        makes(x, 7, 15, 32);
        counts(x, 6, 66, 8, 1, 3, 0, 1);
        cells(x, 0, 0, 0, 1, 15);
        cells(x, 1, 3, 0, 1, 1);
        cells(x, 2, 2, 1, 2, 2);
    }

    private static void makeMarksThenOnceMore() {
        LazyBlocks x = new LazyBlocks(2);
        makes(x, 0, 15, 0);
        makes(x, 1, 15, 16);
        makes(x, 2, 3, 32);
        x.copy(3, 0);
        x.drop(0);
        x.drop(2);
        makes(x, 4, 15, 32);
        counts(x, 3, 48, 4, 1, 2, 0, 0);
        x.drop(1);
        due("make(5, 3)", x.make(5, 3), -4);
        counts(x, 2, 32, 4, 2, 4, 0, 0);
        cells(x, 0, 3, 0, 1, 1);
        cells(x, 1, 3, 0, 1, 1);
        due("the root's object is held while it is made", x.make(3, 3), -4);
        due("object(3, 0)", x.object(3, 0), 0);
    }

    /** Names come in their order though the addresses run the other way, behind those of before. */
    private static void nextByNames() {
        LazyBlocks x = new LazyBlocks(2);
        makes(x, 0, 7, 0);
        makes(x, 1, 7, 8);
        makes(x, 2, 7, 16);
        x.drop(0);
        x.mark();
        makes(x, 3, 7, 0);
        x.watch(3, true);
        x.watch(2, true);
        x.watch(1, true);
        x.drop(2);
        due("mark()", x.mark(), 3);
        counts(x, 3, 24, 4, 2, 1, 1, 1, 1, 2, 3);
        x.drop(3);
        x.drop(1);
        due("mark()", x.mark(), 3);
        counts(x, 3, 24, 4, 3, 1, 1, 1, 3, 0, 3);
        due("next(16)", x.next(16), -2);
        due("next(-1)", x.next(-1), -2);
        due("next(15)", x.next(15), 2);
        due("its root", x.object(15, 1), 16);
        due("count(7)", x.count(7), 2);
        due("next(15)", x.next(15), 1);
        due("next(15)", x.next(15), 3);
        due("its root", x.object(15, 1), 0);
        due("next(15)", x.next(15), -1);
        due("the root stays", x.object(15, 0), 3);
        due("BAD though the queue is empty", x.next(16), -2);
    }

    /** Watched objects that refer to one another are told of all together. */
    private static void nextOfWatchedPair() {
        LazyBlocks x = new LazyBlocks(2);
        makes(x, 0, 1, 0);
        makes(x, 1, 1, 2);
        x.link(0, 0, 1, false);
        x.link(1, 0, 0, false);
        x.watch(0, true);
        x.watch(1, true);
        x.drop(0);
        x.drop(1);
        due("mark()", x.mark(), 2);
        counts(x, 2, 4, 2, 1, 0, 1, 1, 2, 0, 2);
        due("next", x.next(0), 0);
        due("load", x.load(1, 0, 0), 1);
        due("watched in the queue", x.watch(1, true), 0);
        x.drop(0);
        x.drop(1);
        due("mark()", x.mark(), 2);
        counts(x, 2, 4, 2, 2, 0, 1, 1, 1, 1, 2);
        due("next", x.next(0), 1);
        x.drop(0);
        due("mark()", x.mark(), 2);
        due("told of once more", x.next(0), 1);
        due("next", x.next(0), -1);
    }

    private static void markWeakFields() {
        LazyBlocks x = new LazyBlocks(4);
        makes(x, 0, 3, 0);
        makes(x, 1, 3, 4);
        makes(x, 2, 3, 8);
        makes(x, 3, 3, 12);
        makes(x, 4, 3, 16);
        x.link(0, 0, 1, true);
        x.link(0, 1, 2, true);
        x.link(0, 2, 3, true);
        x.watch(1, true);
        x.link(1, 0, 2, false);
        x.link(1, 1, 3, true);
        x.link(1, 2, 4, true);
        x.drop(1);
        x.drop(2);
        x.drop(3);
        due("count(9)", x.count(9), 2);
        due("mark()", x.mark(), 4);
        for (int f = 0; f < 3; f++) {
            due("cut before watched ones are marked", x.refers(0, f), 0);
            due("number", x.number(0, f), 0);
        }
        due("next", x.next(1), 1);
        due("kept by a watched one", x.refers(1, 0), 1);
        due("cut behind watched ones", x.refers(1, 1), 0);
        due("kept by a root", x.refers(1, 2), 2);
        due("object(1, 5)", x.object(1, 5), 1);
        due("not swept yet", x.at(12), 3);
        due("sweep()", x.sweep(), 0);
        due("swept", x.at(12), -1);
        due("kept", x.at(11), 2);
    }

    private static void sweepByNumbers() {
        LazyBlocks x = new LazyBlocks(3);
        due("sweep()", x.sweep(), -1);
        makes(x, 0, 1, 0);
        makes(x, 1, 3, 32);
        due("sweep() before a mark", x.sweep(), -1);
        x.mark();
        makes(x, 2, 0, 2);
        due("sweep()", x.sweep(), 1);
        due("sweep()", x.sweep(), -1);
        counts(x, 3, 8, 3, 1, 2, 1, 0);
        x.drop(2);
        due("sweep() of a swept one", x.sweep(), -1);
        due("made behind the mark, it stays", x.at(3), 2);
        x.mark();
        due("sweep()", x.sweep(), 0);
        due("gone", x.at(3), -1);
        cells(x, 0, 0, 0, 1, 15);
        cells(x, 1, 1, 1, 1, 7);
        cells(x, 2, -1, 0, 0, 0);
    }

    private static void atWords() {
        LazyBlocks x = new LazyBlocks(2);
        makes(x, 0, 4, 0);
        makes(x, 1, 4, 8);
        makes(x, 2, 15, 32);
        for (int w = 0; w < 64; w++) {
            int want = w < 8 ? 0 : w < 16 ? 1 : w < 32 ? -1 : w < 48 ? 2 : -1;
            due("at(" + w + ")", x.at(w), want);
        }
        due("at(64)", x.at(64), -2);
        due("at(-1)", x.at(-1), -2);
        due("at(MAX)", x.at(Integer.MAX_VALUE), -2);
        due("at(MIN)", x.at(Integer.MIN_VALUE), -2);
        x.drop(0);
        x.mark();
        due("still there", x.at(7), 0);
        x.sweep();
        due("gone", x.at(7), -1);
    }

    private static void sums() {
        LazyBlocks x = new LazyBlocks(4);
        due("sum(0)", x.sum(0), 0);
        due("sum(16)", x.sum(16), -2);
        due("sum(-1)", x.sum(-1), -2);
        x.make(0, 0);
        due("sum(0)", x.sum(0), 31 * 7);
        x.make(1, 1);
        due("sum(1)", x.sum(1), 31 * (31 * 7 + 1));
        x.set(1, 0, Integer.MIN_VALUE);
        due("sum(1)", x.sum(1), 6758L + 3L * Integer.MIN_VALUE);
        x.set(1, 0, Integer.MAX_VALUE);
        due("sum(1)", x.sum(1), 6758L + 3L * Integer.MAX_VALUE);
        x.link(1, 0, 1, true);
        due("sum(1)", x.sum(1), 6758L + 2);
        x.link(1, 0, 1, false);
        due("sum(1)", x.sum(1), 6758L + 1);
        x.link(1, 0, 0, false);
        due("sum(1)", x.sum(1), 31 * (6758L + 4));
        x.make(2, 2);
        x.link(2, 0, 0, true);
        x.link(2, 1, 0, false);
        due("a weak field adds 2, come to or not", x.sum(2), 31 * (31 * (31 * (31 * 7 + 2) + 2) + 4));
    }

    /** Root a (fields b, c, a), b (fields d, c), c (no fields), d (one number): taken as a, b, c, d. */
    private static void sumInOrder() {
        LazyBlocks x = new LazyBlocks(4);
        x.make(3, 1);
        x.make(2, 0);
        x.make(1, 2);
        x.make(0, 3);
        x.set(3, 0, -4);
        x.link(0, 0, 1, false);
        x.link(0, 1, 2, false);
        x.link(0, 2, 0, false);
        x.link(1, 0, 3, false);
        x.link(1, 1, 2, false);
        long[] terms = {3, 4, 7, 1, 2, 10, 7, 0, 1, -12};
        long s = 7;
        for (long term : terms) {
            s = 31 * s + term;
        }
        due("sum(0)", x.sum(0), s);
        x.link(0, 3, 0, false);
        due("a wrong call changes nothing", x.sum(0), s);
    }

    private static void constants() {
        due("NONE", LazyBlocks.NONE, -1);
        due("BAD", LazyBlocks.BAD, -2);
        due("REFUSED", LazyBlocks.REFUSED, -3);
        due("FULL", LazyBlocks.FULL, -4);
    }

    public static void main(String[] args) {
        holds("constants", PromisesTest::constants);
        holds("2 make: sweeps its class", PromisesTest::makeSweepsItsClass);
        holds("2 make: sweeps for an empty cell", PromisesTest::makeSweepsForEmptyCell);
        holds("2 make: sweeps other classes", PromisesTest::makeSweepsOtherClasses);
        holds("2 make: marks", PromisesTest::makeMarksThenOnceMore);
        holds("11 next: by names", PromisesTest::nextByNames);
        holds("11 next: pair", PromisesTest::nextOfWatchedPair);
        holds("12 mark: weak fields", PromisesTest::markWeakFields);
        holds("13 sweep", PromisesTest::sweepByNumbers);
        holds("15 at", PromisesTest::atWords);
        holds("19 sum", PromisesTest::sums);
        holds("19 sum: order", PromisesTest::sumInOrder);
        end();
    }
}
