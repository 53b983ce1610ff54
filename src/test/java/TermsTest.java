/** Each sentence of the document's Terms that names a boundary case has a test of its own here. */
public final class TermsTest extends Due {
    private static void blocksOf32Words() {
        for (int total : new int[] {1, 2, 15, 16}) {
            LazyBlocks x = new LazyBlocks(total);
            for (int name = 0; name < 2 * total; name++) {
                due("make(0, 15)", x.make(0, 15), name);
            }
            for (int b = 0; b < total; b++) {
                due("first word of block " + b, x.at(32 * b), 2 * b);
                due("word 15 of block " + b, x.at(32 * b + 15), 2 * b);
                due("word 16 of block " + b, x.at(32 * b + 16), 2 * b + 1);
                due("last word of block " + b, x.at(32 * b + 31), 2 * b + 1);
                cells(x, b, 3, 0, 2, 0);
            }
            due("a word behind the last block", x.at(32 * total), BAD);
            due("a block behind the last", x.block(total, 0), BAD);
        }
    }

    private static void fullBlockOfEachClass() {
        for (int c = 0; c < 4; c++) {
            int words = 2 << c;
            int cells = 32 / words;
            LazyBlocks x = new LazyBlocks(2);
            for (int i = 0; i < cells; i++) {
                makes(x, 0, words - 1, i * words);
                due("first word", x.at(i * words), i);
                due("last word", x.at(i * words + words - 1), i);
                cells(x, 0, c, 0, i + 1, cells - i - 1);
            }
            cells(x, 1, NONE, 0, 0, 0);
            makes(x, 0, words - 1, 32);
            cells(x, 1, c, 0, 1, cells - 1);
        }
    }

    private static void namesAsMade() {
        LazyBlocks x = new LazyBlocks(1);
        due("make(0, 15)", x.make(0, 15), 0);
        due("make(1, 15)", x.make(1, 15), 1);
        due("make(2, 15)", x.make(2, 15), FULL);
        due("make(2, 16)", x.make(2, 16), BAD);
        drops(x, 0);
        due("neither FULL, nor BAD, nor one that is gone gives a name", x.make(0, 15), 2);
        due("count(2)", x.count(2), 3);
    }

    private static void classByFields() {
        int[] classes = {0, 0, 1, 1, 2, 2, 2, 2, 3, 3, 3, 3, 3, 3, 3, 3};
        for (int n = 0; n <= 15; n++) {
            LazyBlocks x = new LazyBlocks(1);
            makes(x, 0, n, 0);
            due("class of " + n + " fields", x.object(0, 3), classes[n]);
            cells(x, 0, classes[n], 0, 1, (16 >> classes[n]) - 1);
        }
    }

    private static void fieldsAreZeroAtFirst() {
        LazyBlocks x = new LazyBlocks(1);
        makes(x, 0, 15, 0);
        for (int f = 0; f < 15; f++) {
            due("refers(0, " + f + ")", x.refers(0, f), 0);
            due("number(0, " + f + ")", x.number(0, f), 0);
            due("set", x.set(0, f, f - 20), 0);
        }
        due("link", x.link(0, 0, 0, false), 0);
        due("link", x.link(0, 14, 0, true), 0);
        drops(x, 0);
        due("mark()", x.mark(), 0);
        makes(x, 1, 15, 0);
        for (int f = 0; f < 15; f++) {
            due("in a used cell: refers(1, " + f + ")", x.refers(1, f), 0);
            due("in a used cell: number(1, " + f + ")", x.number(1, f), 0);
        }
    }

    private static void rootsReferToNoneAtFirst() {
        LazyBlocks x = new LazyBlocks(1);
        for (int root = 0; root <= 15; root++) {
            due("object(" + root + ", 0)", x.object(root, 0), REFUSED);
            due("sum(" + root + ")", x.sum(root), 0);
        }
        for (int root = 0; root <= 15; root++) {
            due("make(" + root + ", 0)", x.make(root, 0), root);
        }
        for (int root = 0; root <= 15; root++) {
            due("object(" + root + ", 0)", x.object(root, 0), root);
        }
        due("object(-1, 0)", x.object(-1, 0), BAD);
        due("object(16, 0)", x.object(16, 0), BAD);
    }

    private static void freeOnesAreSwept() {
        LazyBlocks x = new LazyBlocks(3);
        due("mark()", x.mark(), 0);
        due("count(6)", x.count(6), 0);
        due("sweep()", x.sweep(), NONE);
        fill(x, 4);
        drops(x, 0, 1);
        due("mark()", x.mark(), 2);
        due("sweep()", x.sweep(), 0);
        due("mark()", x.mark(), 2);
        cells(x, 0, NONE, 0, 0, 0);
        cells(x, 1, 3, 1, 2, 0);
        cells(x, 2, NONE, 0, 0, 0);
        due("sweep()", x.sweep(), 1);
        due("sweep()", x.sweep(), NONE);
        due("count(4)", x.count(4), 2);
    }

    private static void unmarkedOnesAreGone() {
        LazyBlocks x = new LazyBlocks(2);
        for (int i = 0; i < 4; i++) {
            makes(x, i, 7, 8 * i);
        }
        drops(x, 0, 2);
        due("mark()", x.mark(), 2);
        due("sweep()", x.sweep(), 0);
        due("at(0)", x.at(0), NONE);
        due("at(8)", x.at(8), 1);
        due("at(16)", x.at(16), NONE);
        due("at(31)", x.at(31), 3);
        cells(x, 0, 2, 0, 2, 2);
    }

    private static void onlyTheSweptBlockLosesThem() {
        LazyBlocks x = new LazyBlocks(2);
        fill(x, 4);
        drops(x, 0, 2);
        x.mark();
        due("sweep()", x.sweep(), 0);
        due("at(0)", x.at(0), NONE);
        due("at(32)", x.at(32), 2);
        cells(x, 0, 3, 0, 1, 1);
        cells(x, 1, 3, 1, 2, 0);
        counts(x, 3, 48, 4, 1, 1, 0, 1, 0, 0, 2);
    }

    private static void freeIfItHasNoObject() {
        LazyBlocks x = new LazyBlocks(3);
        fill(x, 6);
        drops(x, 0, 2, 3, 5);
        due("mark()", x.mark(), 2);
        due("sweep()", x.sweep(), 0);
        due("sweep()", x.sweep(), 1);
        due("sweep()", x.sweep(), 2);
        cells(x, 0, 3, 0, 1, 1);
        cells(x, 1, NONE, 0, 0, 0);
        cells(x, 2, 3, 0, 1, 1);
        due("count(5)", x.count(5), 1);
    }

    /** A block whose objects were all marked, and one that is empty but for one made behind the mark. */
    private static void whatWasMadeBehindTheMarkStays() {
        LazyBlocks x = new LazyBlocks(2);
        makes(x, 0, 15, 0);
        drops(x, 0);
        due("mark()", x.mark(), 0);
        makes(x, 1, 15, 0);
        drops(x, 1);
        due("sweep()", x.sweep(), NONE);
        due("at(0)", x.at(0), 1);
        due("count(0)", x.count(0), 1);
        due("mark()", x.mark(), 0);
        due("sweep()", x.sweep(), 0);
        due("at(0)", x.at(0), NONE);
    }

    private static void nothingIsMarked() {
        LazyBlocks x = new LazyBlocks(1);
        fill(x, 2);
        due("mark()", x.mark(), 2);
        drops(x, 0);
        due("mark()", x.mark(), 1);
        due("sweep()", x.sweep(), 0);
        due("at(0)", x.at(0), NONE);
        drops(x, 1);
        due("mark()", x.mark(), 0);
        due("sweep()", x.sweep(), 0);
        due("count(5)", x.count(5), 1);
    }

    private static void whatRootsReferTo() {
        LazyBlocks x = new LazyBlocks(1);
        for (int root = 0; root <= 15; root++) {
            due("make(" + root + ", 1)", x.make(root, 1), root);
        }
        due("mark()", x.mark(), 16);
        for (int root = 1; root <= 14; root++) {
            drops(x, root);
        }
        due("roots 0 and 15", x.mark(), 2);
        due("two roots of one object", x.copy(3, 15), 15);
        due("mark()", x.mark(), 2);
        due("sweep()", x.sweep(), 0);
        cells(x, 0, 0, 0, 2, 14);
    }

    private static void objectsInTheQueue() {
        LazyBlocks x = new LazyBlocks(1);
        makes(x, 0, 1, 0);
        makes(x, 1, 1, 2);
        makes(x, 2, 1, 4);
        x.link(0, 0, 1, false);
        x.watch(0, true);
        drops(x, 0, 1, 2);
        due("mark()", x.mark(), 2);
        due("held by the queue", x.mark(), 2);
        due("sweep()", x.sweep(), 0);
        due("at(0)", x.at(0), 0);
        due("at(2)", x.at(2), 1);
        due("at(4)", x.at(4), NONE);
        due("next(5)", x.next(5), 0);
        drops(x, 5);
        due("held no more", x.mark(), 0);
    }

    private static void whatFieldsReferTo() {
        LazyBlocks x = new LazyBlocks(4);
        makes(x, 0, 15, 0);
        makes(x, 1, 1, 32);
        makes(x, 2, 1, 34);
        makes(x, 3, 0, 36);
        makes(x, 4, 0, 38);
        x.link(0, 0, 1, false);
        x.link(0, 14, 2, false);
        x.link(1, 0, 3, false);
        x.link(2, 0, 0, false);
        drops(x, 1, 2, 3, 4);
        due("first field, last field, field of a field, a circle", x.mark(), 4);
        due("sweep()", x.sweep(), 0);
        due("sweep()", x.sweep(), 1);
        due("at(36)", x.at(36), 3);
        due("at(38)", x.at(38), NONE);
        x.link(0, 1, 0, false);
        due("itself", x.mark(), 4);
        x.set(0, 0, 0);
        due("referred to no more", x.mark(), 2);
    }

    /** The cell has more words than fields, and the former object's last field referred to another. */
    private static void onlyFieldsThatItHas() {
        LazyBlocks x = new LazyBlocks(1);
        makes(x, 0, 3, 0);
        makes(x, 1, 3, 4);
        x.link(0, 2, 1, false);
        drops(x, 0);
        due("mark()", x.mark(), 1);
        makes(x, 0, 2, 0);
        drops(x, 1);
        due("count(9)", x.count(9), 1);
        due("mark()", x.mark(), 1);
        due("refers(0, 2)", x.refers(0, 2), BAD);
        due("sweep()", x.sweep(), 0);
        due("at(4)", x.at(4), NONE);
    }

    private static void notWeakly() {
        LazyBlocks x = new LazyBlocks(1);
        makes(x, 0, 3, 0);
        makes(x, 1, 3, 4);
        x.link(0, 0, 1, true);
        x.link(0, 2, 1, true);
        drops(x, 1);
        due("mark()", x.mark(), 1);
        due("sweep()", x.sweep(), 0);
        due("at(4)", x.at(4), NONE);
    }

    private static void circleThatNobodyHolds() {
        LazyBlocks x = new LazyBlocks(1);
        makes(x, 0, 1, 0);
        makes(x, 1, 1, 2);
        x.link(0, 0, 1, false);
        x.link(1, 0, 0, false);
        drops(x, 0, 1);
        due("mark()", x.mark(), 0);
        due("sweep()", x.sweep(), 0);
        cells(x, 0, NONE, 0, 0, 0);
    }

    private static void weakFieldsAreCut() {
        LazyBlocks x = new LazyBlocks(2);
        makes(x, 0, 15, 0);
        makes(x, 1, 0, 32);
        makes(x, 2, 0, 34);
        x.link(0, 0, 1, true);
        x.link(0, 14, 1, true);
        x.link(0, 1, 2, true);
        x.link(0, 2, 0, true);
        x.link(0, 3, 0, false);
        x.set(0, 4, 9);
        drops(x, 1);
        due("refers(0, 0)", x.refers(0, 0), 2);
        due("mark()", x.mark(), 2);
        due("the first field", x.refers(0, 0), 0);
        due("the last field", x.refers(0, 14), 0);
        due("number(0, 0)", x.number(0, 0), 0);
        due("number(0, 14)", x.number(0, 14), 0);
        due("to one that a root has", x.refers(0, 1), 2);
        due("to itself", x.refers(0, 2), 2);
        due("not weak", x.refers(0, 3), 1);
        due("a number", x.number(0, 4), 9);
    }

    private static void weakFieldsOfOneThatIsReachedAreCut() {
        LazyBlocks x = new LazyBlocks(1);
        makes(x, 0, 1, 0);
        makes(x, 1, 1, 2);
        makes(x, 2, 1, 4);
        x.link(0, 0, 1, false);
        x.link(1, 0, 2, true);
        drops(x, 1, 2);
        due("mark()", x.mark(), 2);
        due("load(3, 0, 0)", x.load(3, 0, 0), 1);
        due("refers(3, 0)", x.refers(3, 0), 0);
    }

    private static void weakFieldsToReachedOnesStay() {
        LazyBlocks x = new LazyBlocks(1);
        makes(x, 0, 3, 0);
        makes(x, 1, 3, 4);
        makes(x, 2, 3, 8);
        x.link(0, 0, 2, true);
        x.link(0, 1, 1, false);
        x.link(1, 0, 2, false);
        x.link(2, 2, 1, true);
        drops(x, 1, 2);
        due("mark()", x.mark(), 3);
        due("to one that another's field refers to", x.refers(0, 0), 2);
        due("load(2, 0, 0)", x.load(2, 0, 0), 2);
        due("back again", x.refers(2, 2), 2);
    }

    /** A cell that is used again must not bring back a field that was cut. */
    private static void aCutFieldStaysCut() {
        LazyBlocks x = new LazyBlocks(1);
        makes(x, 0, 1, 0);
        makes(x, 1, 1, 2);
        x.link(0, 0, 1, true);
        drops(x, 1);
        x.mark();
        makes(x, 1, 1, 2);
        due("refers(0, 0)", x.refers(0, 0), 0);
        due("load(5, 0, 0)", x.load(5, 0, 0), REFUSED);
    }

    /** The cells have names 7, 5, 6 and 3 in the end, by their addresses. */
    private static void watchedComeByTheirNames() {
        LazyBlocks x = new LazyBlocks(1);
        for (int root = 0; root < 4; root++) {
            makes(x, root, 7, 8 * root);
        }
        drops(x, 0, 1, 2);
        x.mark();
        for (int root = 0; root < 3; root++) {
            makes(x, root, 7, 8 * root);
        }
        drops(x, 0);
        x.mark();
        makes(x, 0, 7, 0);
        for (int root = 0; root < 4; root++) {
            x.watch(root, true);
        }
        drops(x, 0, 1, 2, 3);
        due("mark()", x.mark(), 4);
        int[][] namesAndAddresses = {{3, 24}, {5, 8}, {6, 16}, {7, 0}};
        for (int[] pair : namesAndAddresses) {
            due("next(5)", x.next(5), pair[0]);
            due("object(5, 1)", x.object(5, 1), pair[1]);
        }
        due("next(5)", x.next(5), NONE);
    }

    private static void reachedOnesAreNotQueued() {
        LazyBlocks x = new LazyBlocks(1);
        for (int root = 0; root < 4; root++) {
            makes(x, root, 1, 2 * root);
            x.watch(root, root > 0);
        }
        x.link(0, 0, 1, false);
        x.link(1, 0, 2, false);
        drops(x, 1, 2, 3);
        due("mark()", x.mark(), 4);
        due("only what no field leads to", x.count(7), 1);
        due("the others stay watched", x.count(8), 2);
        due("next(3)", x.next(3), 3);
    }

    private static void whatTheQueueReachesIsNotQueued() {
        LazyBlocks x = new LazyBlocks(1);
        makes(x, 0, 1, 0);
        makes(x, 1, 1, 2);
        x.link(0, 0, 1, false);
        x.watch(0, true);
        drops(x, 0);
        x.mark();
        x.watch(1, true);
        drops(x, 1);
        due("mark()", x.mark(), 2);
        due("count(7)", x.count(7), 1);
        due("count(8)", x.count(8), 1);
        due("next(0)", x.next(0), 0);
        drops(x, 0);
        due("mark()", x.mark(), 1);
        due("next(0)", x.next(0), 1);
    }

    private static void toTheEndOfTheQueue() {
        LazyBlocks x = new LazyBlocks(1);
        for (int root = 0; root < 4; root++) {
            makes(x, root, 1, 2 * root);
            x.watch(root, true);
        }
        drops(x, 3);
        x.mark();
        drops(x, 2, 0);
        x.mark();
        drops(x, 1);
        due("mark()", x.mark(), 4);
        due("count(7)", x.count(7), 4);
        due("next(5)", x.next(5), 3);
        due("next(5)", x.next(5), 0);
        due("next(5)", x.next(5), 2);
        due("next(5)", x.next(5), 1);
        due("next(5)", x.next(5), NONE);
    }

    private static void watchedNoMore() {
        LazyBlocks x = new LazyBlocks(1);
        makes(x, 0, 1, 0);
        makes(x, 1, 1, 2);
        x.watch(0, true);
        x.watch(1, true);
        drops(x, 0);
        x.mark();
        due("count(8)", x.count(8), 1);
        due("a marked one stays watched", x.object(1, 4), 1);
        due("a marked one is not queued", x.count(7), 1);
        due("next(0)", x.next(0), 0);
        due("object(0, 4)", x.object(0, 4), 0);
        drops(x, 0);
        due("not told of again", x.mark(), 1);
        due("next(0)", x.next(0), NONE);
    }

    private static void markedWithAllThatTheirFieldsReferTo() {
        LazyBlocks x = new LazyBlocks(2);
        for (int root = 0; root < 4; root++) {
            makes(x, root, 3, 4 * root);
        }
        x.link(0, 2, 1, false);
        x.link(1, 0, 2, false);
        x.link(0, 1, 3, true);
        x.watch(0, true);
        drops(x, 0, 1, 2, 3);
        due("not the one that it refers to weakly", x.mark(), 3);
        due("sweep()", x.sweep(), 0);
        due("at(0)", x.at(0), 0);
        due("at(4)", x.at(4), 1);
        due("at(8)", x.at(8), 2);
        due("at(12)", x.at(12), NONE);
        due("next(5)", x.next(5), 0);
        due("object(5, 5)", x.object(5, 5), 1);
    }

    private static void watchedOnesThatReferToOneAnother() {
        LazyBlocks x = new LazyBlocks(1);
        makes(x, 0, 1, 0);
        makes(x, 1, 1, 2);
        x.link(0, 0, 1, false);
        x.watch(0, true);
        x.watch(1, true);
        drops(x, 0, 1);
        due("mark()", x.mark(), 2);
        due("both are queued", x.count(7), 2);
        due("count(8)", x.count(8), 0);
    }

    private static void weakFieldsToWatchedOnesAreCutFirst() {
        LazyBlocks x = new LazyBlocks(1);
        makes(x, 0, 3, 0);
        makes(x, 1, 3, 4);
        makes(x, 2, 3, 8);
        x.link(0, 0, 1, true);
        x.link(0, 1, 2, true);
        x.link(1, 0, 2, false);
        x.watch(1, true);
        drops(x, 1, 2);
        due("mark()", x.mark(), 3);
        due("to the watched one", x.refers(0, 0), 0);
        due("to what it refers to", x.refers(0, 1), 0);
    }

    private static void onceMoreForThoseMarkedNow() {
        LazyBlocks x = new LazyBlocks(2);
        for (int root = 0; root < 5; root++) {
            makes(x, root, 3, 4 * root);
        }
        x.link(0, 0, 1, true);
        x.link(0, 1, 2, false);
        x.link(2, 0, 3, true);
        x.link(2, 1, 1, true);
        x.link(0, 2, 4, true);
        x.watch(0, true);
        x.watch(1, true);
        drops(x, 0, 1, 2, 3);
        due("mark()", x.mark(), 4);
        due("next(0)", x.next(0), 0);
        due("to one that is in the queue now", x.refers(0, 0), 2);
        due("to one that a root has", x.refers(0, 2), 2);
        due("load(5, 0, 1)", x.load(5, 0, 1), 2);
        due("to one that nobody has", x.refers(5, 0), 0);
        due("to one that is in the queue now", x.refers(5, 1), 2);
    }

    private static void allThatAreNotFreeAreUnswept() {
        LazyBlocks x = new LazyBlocks(4);
        fill(x, 3);
        due("count(6)", x.count(6), 0);
        x.mark();
        cells(x, 0, 3, 1, 2, 0);
        cells(x, 1, 3, 1, 1, 1);
        cells(x, 2, NONE, 0, 0, 0);
        due("sweep()", x.sweep(), 0);
        makes(x, 9, 1, 64);
        cells(x, 2, 0, 0, 1, 15);
        due("count(6)", x.count(6), 1);
        x.mark();
        due("a swept one and a new one, too", x.count(6), 3);
        cells(x, 3, NONE, 0, 0, 0);
    }

    private static void unmarkedOnesStayUntilSwept() {
        LazyBlocks x = new LazyBlocks(1);
        fill(x, 2);
        drops(x, 0, 1);
        due("mark()", x.mark(), 0);
        due("mark()", x.mark(), 0);
        due("at(0)", x.at(0), 0);
        due("at(31)", x.at(31), 1);
        cells(x, 0, 3, 1, 2, 0);
        counts(x, 2, 32, 2, 2, 0, 0, 1, 0, 0, 0);
        due("sweep()", x.sweep(), 0);
        counts(x, 0, 0, 2, 2, 1, 1, 0, 0, 0, 0);
    }

    private static void theLeastAddress() {
        LazyBlocks x = new LazyBlocks(4);
        fill(x, 6);
        drops(x, 1, 3, 4);
        x.mark();
        due("sweep()", x.sweep(), 0);
        due("sweep()", x.sweep(), 1);
        due("sweep()", x.sweep(), 2);
        makes(x, 6, 15, 16);
        makes(x, 7, 15, 48);
        makes(x, 8, 15, 64);
        makes(x, 9, 15, 96);
        due("nothing more was swept", x.count(4), 3);
    }

    private static void onlyCellsOfItsClass() {
        LazyBlocks x = new LazyBlocks(2);
        makes(x, 0, 15, 0);
        makes(x, 1, 7, 32);
        makes(x, 2, 15, 16);
        makes(x, 3, 4, 40);
        due("empty cells of 8 words do not serve", x.make(4, 8), FULL);
        due("cells of 16 words do not, either", x.make(4, 3), FULL);
        makes(x, 4, 7, 48);
    }

    private static void cellsOfUnsweptBlocksWait() {
        LazyBlocks x = new LazyBlocks(2);
        makes(x, 0, 15, 0);
        x.mark();
        due("an empty cell of an unswept block", x.block(0, 3), 1);
        makes(x, 1, 15, 16);
        due("it was swept for that", x.count(4), 1);
        due("count(6)", x.count(6), 0);
    }

    private static void noSweepWhileASweptBlockHasOne() {
        LazyBlocks x = new LazyBlocks(3);
        fill(x, 4);
        drops(x, 0, 2);
        x.mark();
        due("sweep()", x.sweep(), 0);
        makes(x, 5, 15, 0);
        due("count(4)", x.count(4), 1);
        cells(x, 1, 3, 1, 2, 0);
        makes(x, 6, 15, 32);
        due("count(4)", x.count(4), 2);
        cells(x, 2, NONE, 0, 0, 0);
    }

    private static void itsClassIsSweptBeforeAFreeBlockIsTaken() {
        LazyBlocks x = new LazyBlocks(2);
        fill(x, 4);
        drops(x, 0, 1, 3);
        x.mark();
        due("sweep()", x.sweep(), 0);
        makes(x, 5, 15, 48);
        cells(x, 0, NONE, 0, 0, 0);
        makes(x, 6, 15, 0);
        makes(x, 7, 15, 16);
        due("count(4)", x.count(4), 2);
        due("count(3)", x.count(3), 1);
    }

    private static void sweptByNumbersTillOneHasAnEmptyCell() {
        LazyBlocks x = new LazyBlocks(4);
        fill(x, 6);
        drops(x, 3, 5);
        x.mark();
        makes(x, 6, 15, 48);
        cells(x, 0, 3, 0, 2, 0);
        cells(x, 1, 3, 0, 2, 0);
        cells(x, 2, 3, 1, 2, 0);
        cells(x, 3, NONE, 0, 0, 0);
        due("count(4)", x.count(4), 2);
    }

    private static void orTillOneIsFree() {
        LazyBlocks x = new LazyBlocks(3);
        fill(x, 6);
        drops(x, 2, 3, 5);
        x.mark();
        makes(x, 6, 15, 32);
        cells(x, 0, 3, 0, 2, 0);
        cells(x, 1, 3, 0, 1, 1);
        cells(x, 2, 3, 1, 2, 0);
        due("count(4)", x.count(4), 2);
    }

    private static void theFreeBlockWithTheLeastNumber() {
        LazyBlocks x = new LazyBlocks(4);
        makes(x, 0, 7, 0);
        makes(x, 1, 15, 32);
        makes(x, 2, 15, 48);
        makes(x, 3, 15, 64);
        drops(x, 0, 1, 2);
        x.mark();
        due("sweep()", x.sweep(), 0);
        makes(x, 4, 15, 0);
        cells(x, 0, 3, 0, 1, 1);
        cells(x, 1, NONE, 0, 0, 0);
        cells(x, 2, 3, 1, 1, 1);
        cells(x, 3, NONE, 0, 0, 0);
    }

    private static void noOtherClassIsSweptWhileOneIsFree() {
        LazyBlocks x = new LazyBlocks(2);
        makes(x, 0, 7, 0);
        drops(x, 0);
        x.mark();
        makes(x, 1, 15, 32);
        due("count(4)", x.count(4), 0);
        cells(x, 0, 2, 1, 1, 3);
        cells(x, 1, 3, 0, 1, 1);
    }

    private static void otherClassesTillOneIsFree() {
        LazyBlocks x = new LazyBlocks(4);
        makes(x, 0, 1, 0);
        makes(x, 1, 3, 32);
        makes(x, 2, 7, 64);
        makes(x, 3, 1, 2);
        makes(x, 4, 3, 36);
        makes(x, 5, 3, 40);
        for (int i = 0; i < 16; i++) {
            due("make(6, 0)", x.make(6, 0), 6 + i);
        }
        drops(x, 1, 2, 3, 4, 5, 6);
        due("mark()", x.mark(), 1);
        makes(x, 7, 15, 32);
        cells(x, 0, 0, 0, 1, 15);
        cells(x, 1, 3, 0, 1, 1);
        cells(x, 2, 2, 1, 1, 3);
        cells(x, 3, 0, 1, 2, 14);
        due("count(4)", x.count(4), 2);
        due("count(3)", x.count(3), 1);
    }

    private static void otherwiseToMarkAndOnceMore() {
        LazyBlocks x = new LazyBlocks(1);
        fill(x, 2);
        drops(x, 1);
        makes(x, 2, 15, 16);
        counts(x, 2, 32, 3, 1, 1, 0, 0, 0, 0, 2);
        drops(x, 0, 2);
        makes(x, 3, 1, 0);
        cells(x, 0, 0, 0, 1, 15);
        counts(x, 1, 2, 4, 2, 2, 0, 0, 0, 0, 1);
    }

    /** Both rounds sweep: the first what an earlier mark left unswept. */
    private static void unsweptOnesComeBeforeToMark() {
        LazyBlocks x = new LazyBlocks(2);
        fill(x, 4);
        x.mark();
        drops(x, 0);
        makes(x, 5, 15, 0);
        counts(x, 4, 64, 5, 2, 3, 0, 1, 0, 0, 4);
    }

    private static void fullAndWhatWasMarkedAndSweptStaysSo() {
        LazyBlocks x = new LazyBlocks(2);
        fill(x, 2);
        makes(x, 2, 1, 32);
        makes(x, 3, 1, 34);
        makes(x, 4, 1, 36);
        x.watch(2, true);
        x.link(4, 0, 3, true);
        drops(x, 2, 3);
        due("make(5, 15)", x.make(5, 15), FULL);
        counts(x, 4, 36, 5, 1, 2, 0, 0, 1, 0, 4);
        due("swept", x.at(34), NONE);
        due("cut", x.refers(4, 0), 0);
        due("marked", x.object(4, 5), 1);
        due("the root stays", x.object(5, 0), REFUSED);
        due("queued", x.next(6), 2);
        due("make(0, 15)", x.make(0, 15), FULL);
        counts(x, 4, 36, 5, 2, 4, 0, 0, 0, 0, 4);
        due("the root stays", x.object(0, 0), 0);
    }

    private static void fullHeapOfSixteenBlocks() {
        LazyBlocks x = new LazyBlocks(16);
        makes(x, 0, 15, 0);
        for (int i = 1; i < 32; i++) {
            makes(x, i % 2, 15, 16 * i);
            due("link", x.link(i % 2, 14, (i + 1) % 2, false), 0);
        }
        counts(x, 32, 512, 32, 0, 0, 0, 0, 0, 0, 32);
        due("make(2, 15)", x.make(2, 15), FULL);
        due("make(2, 0)", x.make(2, 0), FULL);
        counts(x, 32, 512, 32, 2, 32, 0, 0, 0, 0, 32);
        drops(x, 1, 0);
        makes(x, 2, 0, 0);
        counts(x, 31, 482, 33, 3, 33, 0, 15, 0, 0, 1);
    }

    public static void main(String[] args) {
        holds("THE HEAP has B BLOCKS of 32 WORDS, numbered from 0 on", TermsTest::blocksOf32Words);
        holds("CELLS of 2, 4, 8 or 16 words, each with an object or empty", TermsTest::fullBlockOfEachClass);
        holds("a NAME (0, 1, .. as they are made)", TermsTest::namesAsMade);
        holds("the least one whose cells have a word more than it has fields", TermsTest::classByFields);
        holds("A field has a number (0 at first)", TermsTest::fieldsAreZeroAtFirst);
        holds("ROOTS 0 .. 15 refer to none (at first)", TermsTest::rootsReferToNoneAtFirst);
        holds("FREE ones are swept", TermsTest::freeOnesAreSwept);
        holds("TO SWEEP: all its objects that are not MARKED are gone", TermsTest::unmarkedOnesAreGone);
        holds("TO SWEEP: all ITS objects", TermsTest::onlyTheSweptBlockLosesThem);
        holds("FREE if it has no object then", TermsTest::freeIfItHasNoObject);
        holds("TO SWEEP an unswept block", TermsTest::whatWasMadeBehindTheMarkStays);
        holds("(1) Nothing is marked", TermsTest::nothingIsMarked);
        holds("(2) What roots refer to", TermsTest::whatRootsReferTo);
        holds("(2) and objects in THE QUEUE, is marked", TermsTest::objectsInTheQueue);
        holds("(2) and what fields of marked ones refer to", TermsTest::whatFieldsReferTo);
        holds("(2) what FIELDS refer to, not words behind them", TermsTest::onlyFieldsThatItHas);
        holds("(2) (not weakly)", TermsTest::notWeakly);
        holds("(2) is marked: not what nobody holds", TermsTest::circleThatNobodyHolds);
        holds("(3) Weak fields have the number 0 then", TermsTest::weakFieldsAreCut);
        holds("(3) Weak fields of marked objects", TermsTest::weakFieldsOfOneThatIsReachedAreCut);
        holds("(3) that refer to one that is not marked", TermsTest::weakFieldsToReachedOnesStay);
        holds("(3) have the number 0 then, and keep it", TermsTest::aCutFieldStaysCut);
        holds("(4) that are not marked: by fields, too", TermsTest::reachedOnesAreNotQueued);
        holds("(4) that are not marked: by the queue, too", TermsTest::whatTheQueueReachesIsNotQueued);
        holds("(4) come, by their names", TermsTest::watchedComeByTheirNames);
        holds("(4) to the end of THE QUEUE", TermsTest::toTheEndOfTheQueue);
        holds("(4) are watched no more", TermsTest::watchedNoMore);
        holds("(4) marked with all that their fields refer to", TermsTest::markedWithAllThatTheirFieldsReferTo);
        holds("(4) not marked: as they are before (4)", TermsTest::watchedOnesThatReferToOneAnother);
        holds("(3) comes before (4)", TermsTest::weakFieldsToWatchedOnesAreCutFirst);
        holds("(5) Once more 3, for those that are marked now", TermsTest::onceMoreForThoseMarkedNow);
        holds("(6) All blocks that are not FREE are unswept", TermsTest::allThatAreNotFreeAreUnswept);
        holds("Objects that are not marked stay until their block is swept", TermsTest::unmarkedOnesStayUntilSwept);
        holds("TO MAKE: the empty cell with the least address", TermsTest::theLeastAddress);
        holds("TO MAKE: blocks of class c", TermsTest::onlyCellsOfItsClass);
        holds("TO MAKE: in the swept blocks", TermsTest::cellsOfUnsweptBlocksWait);
        holds("TO MAKE: If there is none: unswept blocks of class c", TermsTest::noSweepWhileASweptBlockHasOne);
        holds("then, again: an empty cell; else the FREE block", TermsTest::itsClassIsSweptBeforeAFreeBlockIsTaken);
        holds("by their numbers, till one has an empty cell", TermsTest::sweptByNumbersTillOneHasAnEmptyCell);
        holds("till one is FREE", TermsTest::orTillOneIsFree);
        holds("else the FREE block with the least number", TermsTest::theFreeBlockWithTheLeastNumber);
        holds("else unswept blocks of other classes", TermsTest::noOtherClassIsSweptWhileOneIsFree);
        holds("other classes, by their numbers, till one is FREE", TermsTest::otherClassesTillOneIsFree);
        holds("If there was none, TO MARK, and all this once more", TermsTest::otherwiseToMarkAndOnceMore);
        holds("unswept ones are swept before TO MARK", TermsTest::unsweptOnesComeBeforeToMark);
        holds("FULL (what was marked and swept stays so)", TermsTest::fullAndWhatWasMarkedAndSweptStaysSo);
        holds("it is FULL: a heap of sixteen blocks", TermsTest::fullHeapOfSixteenBlocks);
        end();
    }
}
