import java.util.Random;

/**
 * No call throws, whatever its arguments and however many calls came before. What it answers is not
 * looked at: behind the 512th call answers are free.
 */
public final class AnyCallTest {
    private static final int[] EDGES = {
        Integer.MIN_VALUE, Integer.MIN_VALUE + 1, -33, -32, -16, -4, -3, -2, -1, 0, 1, 2, 3, 4, 7, 8,
        9, 10, 14, 15, 16, 17, 31, 32, 33, 63, 64, 255, 256, 511, 512, 1999, 2000,
        Integer.MAX_VALUE - 15, Integer.MAX_VALUE - 1, Integer.MAX_VALUE,
    };

    private static void callAny(LazyBlocks x, Random random) {
        int[] a = new int[3];
        for (int i = 0; i < 3; i++) {
            a[i] = random.nextInt(3) == 0 ? EDGES[random.nextInt(EDGES.length)] : random.nextInt(16);
        }
        boolean on = random.nextBoolean();
        switch (random.nextInt(20)) {
            case 0: case 1: x.make(a[0], a[1]); break;
            case 2: x.set(a[0], a[1], a[2]); break;
            case 3: case 4: x.link(a[0], a[1], a[2], on); break;
            case 5: x.refers(a[0], a[1]); break;
            case 6: x.number(a[0], a[1]); break;
            case 7: x.load(a[0], a[1], a[2]); break;
            case 8: x.copy(a[0], a[1]); break;
            case 9: x.drop(a[0]); break;
            case 10: x.watch(a[0], on); break;
            case 11: x.next(a[0]); break;
            case 12: x.mark(); break;
            case 13: x.sweep(); break;
            case 14: x.object(a[0], a[1]); break;
            case 15: x.at(a[0]); break;
            case 16: x.block(a[0], a[1]); break;
            case 17: x.count(a[0]); break;
            case 18: x.same(a[0], a[1]); break;
            default: x.sum(a[0]);
        }
    }

    public static void main(String[] args) {
        boolean fine = true;
        for (int blocks : EDGES) {
            LazyBlocks x = new LazyBlocks(blocks);
            Random random = new Random(blocks);
            try {
                for (int i = 0; i < 20000; i++) {
                    callAny(x, random);
                }
            } catch (RuntimeException e) {
                fine = false;
                System.out.println("new LazyBlocks(" + blocks + "): " + e);
            }
        }
        System.out.println(fine ? "no call throws" : "faults");
        if (!fine) {
            System.exit(1);
        }
    }
}
