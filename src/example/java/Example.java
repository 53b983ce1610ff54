/** An object that nobody holds is told of before it goes, and the weak field that referred to it is cut. */
public final class Example {
    private static void show(String call, long answer) {
        System.out.println(call + " = " + answer);
    }

    public static void main(String[] args) {
        LazyBlocks heap = new LazyBlocks(4);
        show("make(0, 3)", heap.make(0, 3));
        show("make(1, 1)", heap.make(1, 1));
        show("set(1, 0, 42)", heap.set(1, 0, 42));
        show("link(0, 2, 1, true)", heap.link(0, 2, 1, true));
        show("watch(1, true)", heap.watch(1, true));
        show("drop(1)", heap.drop(1));
        show("mark()", heap.mark());
        show("refers(0, 2)", heap.refers(0, 2));
        show("next(5)", heap.next(5));
        show("number(5, 0)", heap.number(5, 0));
        show("drop(5)", heap.drop(5));
        show("mark()", heap.mark());
        show("at(32)", heap.at(32));
        show("sweep()", heap.sweep());
        show("sweep()", heap.sweep());
        show("at(32)", heap.at(32));
        show("count(5)", heap.count(5));
        show("watch(5, true)", heap.watch(5, true));
    }
}
