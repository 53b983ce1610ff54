/** Counts the sentences of the document that hold; the tests of single sentences extend it. */
abstract class Due {
    static final int NONE = -1;
    static final int BAD = -2;
    static final int REFUSED = -3;
    static final int FULL = -4;

    private static String sentence = "";
    private static boolean broken;
    private static int passed;
    private static int failed;

    static void holds(String text, Runnable test) {
        sentence = text;
        broken = false;
        test.run();
        if (broken) {
            failed++;
        } else {
            passed++;
        }
    }

    static void end() {
        System.out.println(passed + " passed, " + failed + " failed");
        if (failed != 0 || passed == 0) {
            System.exit(1);
        }
    }

    static void due(String call, long got, long want) {
        if (got != want) {
            broken = true;
            System.out.println("\"" + sentence + "\": " + call + " answered " + got + ", due is " + want);
        }
    }

    static void due(String call, String got, String want) {
        if (!got.equals(want)) {
            broken = true;
            System.out.println("\"" + sentence + "\": " + call + "\n  is  " + got + "\n  due " + want);
        }
    }

    static void counts(LazyBlocks x, int... want) {
        for (int what = 0; what < want.length; what++) {
            due("count(" + what + ")", x.count(what), want[what]);
        }
    }

    static void cells(LazyBlocks x, int b, int c, int unswept, int objects, int empty) {
        due("block(" + b + ", 0)", x.block(b, 0), c);
        due("block(" + b + ", 1)", x.block(b, 1), unswept);
        due("block(" + b + ", 2)", x.block(b, 2), objects);
        due("block(" + b + ", 3)", x.block(b, 3), empty);
    }

    static void makes(LazyBlocks x, int root, int n, int address) {
        int made = x.count(2);
        due("make(" + root + ", " + n + ")", x.make(root, n), made);
        due("object(" + root + ", 1)", x.object(root, 1), address);
    }

    /** Objects of 15 fields, two a block, each in a root of its own. */
    static void fill(LazyBlocks x, int objects) {
        for (int i = 0; i < objects; i++) {
            makes(x, i, 15, 16 * i);
        }
    }

    static void drops(LazyBlocks x, int... roots) {
        for (int root : roots) {
            due("drop(" + root + ")", x.drop(root), 1);
        }
    }
}
