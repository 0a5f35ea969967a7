/** Promise 2: the state of the draws becomes the seed, and nothing else changes. */
public final class SeedTest {
    private static final Check CHECK = new Check("SeedTest");

    public static void main(String[] args) {
        attachingDrawsAnew();
        theSameSeedTwice();
        puttingBackDrawsAnew();
        nothingElseChanges();
        CHECK.done();
    }

    private static void attachingDrawsAnew() {
        for (int seed : new int[] {5, -5, 0, Integer.MIN_VALUE, Integer.MAX_VALUE}) {
            MeshedSpans x = new MeshedSpans(1);
            x.malloc(1);
            x.seed(seed);
            int[] row = new Lot(seed).shuffled(Lot.upTo(8));
            CHECK.due("malloc(2) after seed(" + seed + ")", x.malloc(2), 16 + 2 * row[7]);
            CHECK.dueVector("after seed(" + seed + ")", x, 1, java.util.Arrays.copyOf(row, 7));
        }
    }

    private static void theSameSeedTwice() {
        MeshedSpans x = new MeshedSpans(1);
        x.seed(77);
        x.seed(77);
        int[] row = new Lot(77).shuffled(Lot.upTo(16));
        CHECK.due("malloc(1)", x.malloc(1), row[15]);
    }

    private static void puttingBackDrawsAnew() {
        for (int seed = 0; seed < 20; seed++) {
            MeshedSpans x = new MeshedSpans(4);
            int address = x.malloc(1);
            int[] left = new int[15];
            for (int k = 0; k < 15; k++) {
                left[k] = x.vector(0, k);
            }
            x.seed(seed);
            x.free(address);
            CHECK.dueVector("seed(" + seed + ") and free", x, 0, new Lot(seed).putBack(left, address));
        }
    }

    private static void nothingElseChanges() {
        MeshedSpans x = new MeshedSpans(1);
        int a = x.malloc(4);
        int[] left = {x.vector(2, 0), x.vector(2, 1), x.vector(2, 2)};
        x.store(a, 8);
        x.seed(9);
        CHECK.dueVector("after seed", x, 2, left);
        CHECK.due("attached(2)", x.attached(2), 0);
        CHECK.due("load", x.load(a), 8);
        CHECK.due("blocks()", x.blocks(), 1);
        CHECK.due("mapped(0)", x.mapped(0), 0);
        x.malloc(1);
        CHECK.due("attached(0): the numbers go on", x.attached(0), 1);
    }
}
