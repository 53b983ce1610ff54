import java.util.function.ToLongFunction;

/**
 * "In all calls BAD: .. then REFUSED: ..": every call with every kind of wrong input, and that such a
 * call changes nothing, which is seen by comparing with a heap on which it was not called.
 */
public final class RefusalsTest extends Due {
    private static final int[] NO_ROOTS = {-1, 16, 17, Integer.MIN_VALUE, Integer.MAX_VALUE};
    private static final int[] NO_FIELDS = {-1, 15, 16, Integer.MIN_VALUE, Integer.MAX_VALUE};

    /** Roots of the heap below; LITTLE's object has no field, MANY's has 14, EMPTY refers to none. */
    private static final int MIXED = 0;
    private static final int LITTLE = 1;
    private static final int MANY = 2;
    private static final int LATE = 3;
    private static final int LAST = 15;
    private static final int EMPTY = 7;
    private static final int EMPTY_TOO = 8;

    /** Unswept and swept blocks, a queue of two, a watched object, all kinds of fields, and some garbage. */
    private static LazyBlocks heap() {
        LazyBlocks x = new LazyBlocks(4);
        x.make(MIXED, 3);
        x.make(LITTLE, 0);
        x.make(MANY, 14);
        x.make(LAST, 1);
        for (int i = 0; i < 2; i++) {
            x.make(EMPTY, 3);
            x.watch(EMPTY, true);
        }
        x.make(EMPTY, 3);
        x.drop(EMPTY);
        x.mark();
        x.make(LATE, 7);
        x.watch(LITTLE, true);
        x.link(MIXED, 0, LITTLE, false);
        x.link(MIXED, 1, LATE, true);
        x.set(MIXED, 2, 77);
        x.link(LAST, 0, LAST, false);
        return x;
    }

    private static String portrait(LazyBlocks x) {
        StringBuilder text = new StringBuilder("counts");
        for (int what = 0; what < 10; what++) {
            text.append(' ').append(x.count(what));
        }
        text.append(" blocks");
        for (int i = 0; i < 16; i++) {
            text.append(' ').append(x.block(i / 4, i % 4));
        }
        text.append(" at");
        for (int word = 0; word < 128; word += 2) {
            text.append(' ').append(x.at(word));
        }
        text.append(" roots");
        for (int root = 0; root < 16; root++) {
            for (int what = 0; what < 6; what++) {
                text.append(' ').append(x.object(root, what));
            }
            text.append(' ').append(x.sum(root));
        }
        text.append(" field and queue ").append(x.load(EMPTY, MIXED, 1));
        for (int i = 0; i < 3; i++) {
            text.append(' ').append(x.next(EMPTY));
        }
        return text.toString();
    }

    private static void answers(String call, long want, ToLongFunction<LazyBlocks> test) {
        LazyBlocks x = heap();
        due(call, test.applyAsLong(x), want);
        due("the heap behind " + call, portrait(x), portrait(heap()));
    }

    private static void noSuchRoot() {
        for (int r : NO_ROOTS) {
            answers("make(" + r + ", 1)", BAD, x -> x.make(r, 1));
            answers("set(" + r + ", 0, 5)", BAD, x -> x.set(r, 0, 5));
            answers("link(" + r + ", 0, 0, false)", BAD, x -> x.link(r, 0, MIXED, false));
            answers("link(0, 0, " + r + ", false)", BAD, x -> x.link(MIXED, 0, r, false));
            answers("link(0, 0, " + r + ", true)", BAD, x -> x.link(MIXED, 0, r, true));
            answers("refers(" + r + ", 0)", BAD, x -> x.refers(r, 0));
            answers("load(" + r + ", 0, 0)", BAD, x -> x.load(r, MIXED, 0));
            answers("load(0, " + r + ", 0)", BAD, x -> x.load(MIXED, r, 0));
            answers("copy(" + r + ", 0)", BAD, x -> x.copy(r, MIXED));
            answers("copy(0, " + r + ")", BAD, x -> x.copy(MIXED, r));
            answers("drop(" + r + ")", BAD, x -> x.drop(r));
            answers("watch(" + r + ", true)", BAD, x -> x.watch(r, true));
            answers("watch(" + r + ", false)", BAD, x -> x.watch(r, false));
            answers("next(" + r + ")", BAD, x -> x.next(r));
            answers("object(" + r + ", 0)", BAD, x -> x.object(r, 0));
            answers("same(" + r + ", 0)", BAD, x -> x.same(r, MIXED));
            answers("same(0, " + r + ")", BAD, x -> x.same(MIXED, r));
            answers("same(" + r + ", " + r + ")", BAD, x -> x.same(r, r));
            answers("sum(" + r + ")", BAD, x -> x.sum(r));
        }
    }

    private static void aFieldIsNot0To14() {
        for (int f : NO_FIELDS) {
            answers("set(2, " + f + ", 5)", BAD, x -> x.set(MANY, f, 5));
            answers("link(2, " + f + ", 0, false)", BAD, x -> x.link(MANY, f, MIXED, false));
            answers("refers(2, " + f + ")", BAD, x -> x.refers(MANY, f));
            answers("load(7, 2, " + f + ")", BAD, x -> x.load(EMPTY, MANY, f));
        }
    }

    private static void theObjectHasItNot() {
        int[][] pairs = {{LITTLE, 0}, {LITTLE, 14}, {MIXED, 3}, {MIXED, 14}, {MANY, 14}, {LAST, 1}};
        for (int[] pair : pairs) {
            int r = pair[0];
            int f = pair[1];
            answers("set(" + r + ", " + f + ", 5)", BAD, x -> x.set(r, f, 5));
            answers("link(" + r + ", " + f + ", 0, true)", BAD, x -> x.link(r, f, MIXED, true));
            answers("refers(" + r + ", " + f + ")", BAD, x -> x.refers(r, f));
            answers("load(7, " + r + ", " + f + ")", BAD, x -> x.load(EMPTY, r, f));
        }
    }

    private static void aNumberIsNotAsSaid() {
        for (int n : new int[] {-1, 16, Integer.MIN_VALUE, Integer.MAX_VALUE}) {
            answers("make(7, " + n + ")", BAD, x -> x.make(EMPTY, n));
        }
        for (int what : new int[] {-1, 6, Integer.MIN_VALUE, Integer.MAX_VALUE}) {
            answers("object(0, " + what + ")", BAD, x -> x.object(MIXED, what));
        }
        for (int what : new int[] {-1, 4, Integer.MIN_VALUE, Integer.MAX_VALUE}) {
            answers("block(0, " + what + ")", BAD, x -> x.block(0, what));
        }
        for (int what : new int[] {-1, 10, Integer.MIN_VALUE, Integer.MAX_VALUE}) {
            answers("count(" + what + ")", BAD, x -> x.count(what));
        }
        for (int b : new int[] {-1, 4, 16, Integer.MIN_VALUE, Integer.MAX_VALUE}) {
            answers("block(" + b + ", 0)", BAD, x -> x.block(b, 0));
            answers("block(" + b + ", 3)", BAD, x -> x.block(b, 3));
        }
        for (int word : new int[] {-1, 128, 512, Integer.MIN_VALUE, Integer.MAX_VALUE}) {
            answers("at(" + word + ")", BAD, x -> x.at(word));
        }
    }

    private static void theRootRefersToNone() {
        for (int f : new int[] {0, 7, 14}) {
            answers("set(7, " + f + ", 5)", REFUSED, x -> x.set(EMPTY, f, 5));
            answers("link(7, " + f + ", 0, false)", REFUSED, x -> x.link(EMPTY, f, MIXED, false));
            answers("link(7, " + f + ", 7, false)", REFUSED, x -> x.link(EMPTY, f, EMPTY, false));
            answers("refers(7, " + f + ")", REFUSED, x -> x.refers(EMPTY, f));
            answers("load(0, 7, " + f + ")", REFUSED, x -> x.load(MIXED, EMPTY, f));
            answers("load(7, 8, " + f + ")", REFUSED, x -> x.load(EMPTY, EMPTY_TOO, f));
        }
        answers("watch(7, true)", REFUSED, x -> x.watch(EMPTY, true));
        answers("watch(7, false)", REFUSED, x -> x.watch(EMPTY, false));
        for (int what = 0; what < 6; what++) {
            int w = what;
            answers("object(7, " + w + ")", REFUSED, x -> x.object(EMPTY, w));
        }
    }

    private static void linkToARootOfNone() {
        for (int f = 0; f < 3; f++) {
            int field = f;
            answers("link(0, " + f + ", 7, false)", REFUSED, x -> x.link(MIXED, field, EMPTY, false));
            answers("link(0, " + f + ", 7, true)", REFUSED, x -> x.link(MIXED, field, EMPTY, true));
        }
        answers("link(7, 0, 8, true)", REFUSED, x -> x.link(EMPTY, 0, EMPTY_TOO, true));
    }

    private static void loadOfANumber() {
        answers("load(1, 0, 2)", REFUSED, x -> x.load(LITTLE, MIXED, 2));
        answers("load(0, 0, 2)", REFUSED, x -> x.load(MIXED, MIXED, 2));
        answers("load(7, 2, 13)", REFUSED, x -> x.load(EMPTY, MANY, 13));
    }

    private static void badComesBeforeRefused() {
        for (int f : NO_FIELDS) {
            answers("set(7, " + f + ", 5)", BAD, x -> x.set(EMPTY, f, 5));
            answers("link(7, " + f + ", 0, true)", BAD, x -> x.link(EMPTY, f, MIXED, true));
            answers("link(2, " + f + ", 7, true)", BAD, x -> x.link(MANY, f, EMPTY, true));
            answers("refers(7, " + f + ")", BAD, x -> x.refers(EMPTY, f));
            answers("load(0, 7, " + f + ")", BAD, x -> x.load(MIXED, EMPTY, f));
        }
        for (int r : NO_ROOTS) {
            answers("link(7, 0, " + r + ", true)", BAD, x -> x.link(EMPTY, 0, r, true));
            answers("link(" + r + ", 0, 7, true)", BAD, x -> x.link(r, 0, EMPTY, true));
            answers("load(" + r + ", 7, 0)", BAD, x -> x.load(r, EMPTY, 0));
            answers("load(" + r + ", 0, 2)", BAD, x -> x.load(r, MIXED, 2));
            answers("copy(" + r + ", 7)", BAD, x -> x.copy(r, EMPTY));
        }
        answers("link(0, 3, 7, true)", BAD, x -> x.link(MIXED, 3, EMPTY, true));
        answers("object(7, 6)", BAD, x -> x.object(EMPTY, 6));
        answers("object(7, -1)", BAD, x -> x.object(EMPTY, -1));
    }

    private static void numberOfNoSuchField() {
        for (int r : NO_ROOTS) {
            answers("number(" + r + ", 0)", 0, x -> x.number(r, 0));
        }
        for (int f : NO_FIELDS) {
            answers("number(0, " + f + ")", 0, x -> x.number(MIXED, f));
        }
        answers("number(1, 0)", 0, x -> x.number(LITTLE, 0));
        answers("number(0, 3)", 0, x -> x.number(MIXED, 3));
        answers("number(2, 14)", 0, x -> x.number(MANY, 14));
        answers("number(7, 0)", 0, x -> x.number(EMPTY, 0));
    }

    private static void askingChangesNothing() {
        answers("refers(0, 1)", 2, x -> x.refers(MIXED, 1));
        answers("number(0, 2)", 77, x -> x.number(MIXED, 2));
        answers("object(0, 0)", 0, x -> x.object(MIXED, 0));
        answers("at(0)", 0, x -> x.at(0));
        answers("block(3, 3)", 3, x -> x.block(3, 3));
        answers("count(9)", 7, x -> x.count(9));
        answers("same(0, 1)", 0, x -> x.same(MIXED, LITTLE));
        answers("sum(7)", 0, x -> x.sum(EMPTY));
        answers("copy(0, 0)", 0, x -> x.copy(MIXED, MIXED));
        answers("drop(7)", 0, x -> x.drop(EMPTY));
        answers("watch(1, true)", 1, x -> x.watch(LITTLE, true));
    }

    public static void main(String[] args) {
        holds("BAD: there is no such root", RefusalsTest::noSuchRoot);
        holds("BAD: a field is not 0 .. 14", RefusalsTest::aFieldIsNot0To14);
        holds("BAD: or the root's object has it not", RefusalsTest::theObjectHasItNot);
        holds("BAD: a number is not as said", RefusalsTest::aNumberIsNotAsSaid);
        holds("then REFUSED: the root refers to none", RefusalsTest::theRootRefersToNone);
        holds("link: REFUSED: one of both refers to none", RefusalsTest::linkToARootOfNone);
        holds("load: REFUSED: also the field has a number", RefusalsTest::loadOfANumber);
        holds("BAD; then REFUSED", RefusalsTest::badComesBeforeRefused);
        holds("number: 0 if there is none such", RefusalsTest::numberOfNoSuchField);
        holds("a call that only asks changes nothing", RefusalsTest::askingChangesNothing);
        end();
    }
}
