/** Promise 1: no blocks, nothing mapped, the draws begin with the seed. */
public final class NewObjectTest {
    private static final Check CHECK = new Check("NewObjectTest");

    public static void main(String[] args) {
        nothingIsThere();
        noAddressIsLive();
        drawsBeginWithTheSeed();
        objectsAreApart();
        CHECK.done();
    }

    private static void nothingIsThere() {
        MeshedSpans x = new MeshedSpans(3);
        CHECK.due("blocks()", x.blocks(), 0);
        CHECK.due("freeSpans()", x.freeSpans(), 12);
        CHECK.due("probes()", x.probes(), 0);
        for (int v = 0; v < 24; v++) {
            CHECK.due("mapped(" + v + ")", x.mapped(v), MeshedSpans.NONE);
        }
        for (int p = 0; p < 12; p++) {
            CHECK.due("count(" + p + ")", x.count(p), 0);
        }
        for (int c = 0; c < 4; c++) {
            CHECK.due("heaps(" + c + ")", x.heaps(c), 0);
            CHECK.due("attached(" + c + ")", x.attached(c), MeshedSpans.NONE);
            CHECK.due("vector(" + c + ", 0)", x.vector(c, 0), MeshedSpans.NONE);
        }
    }

    private static void noAddressIsLive() {
        for (int a = -1; a <= 384; a++) {
            MeshedSpans x = new MeshedSpans(a);
            CHECK.due("load(" + a + ")", x.load(a), MeshedSpans.WILD_ACCESS);
            CHECK.due("store(" + a + ", 1)", x.store(a, 1), false);
            CHECK.due("size(" + a + ")", x.size(a), MeshedSpans.WILD);
            CHECK.due("heapOf(" + a + ")", x.heapOf(a), MeshedSpans.WILD);
            CHECK.due("free(" + a + ")", x.free(a), false);
        }
    }

    private static void drawsBeginWithTheSeed() {
        int[] seeds = {0, 1, -1, 2, 7, 99, -3, 12345, 1 << 16, Integer.MAX_VALUE, Integer.MIN_VALUE};
        for (int seed : seeds) {
            for (int c = 0; c < 4; c++) {
                MeshedSpans x = new MeshedSpans(seed);
                int[] row = new Lot(seed).shuffled(Lot.upTo(16 >> c));
                int last = row[row.length - 1];
                CHECK.due("seed " + seed + ": malloc(" + (1 << c) + ")", x.malloc(1 << c), last << c);
                CHECK.dueVector("seed " + seed, x, c, java.util.Arrays.copyOf(row, row.length - 1));
            }
        }
    }

    private static void objectsAreApart() {
        MeshedSpans x = new MeshedSpans(1);
        MeshedSpans y = new MeshedSpans(1);
        x.malloc(64);
        CHECK.due("blocks() of another object", y.blocks(), 0);
        CHECK.due("malloc(16) of another object", y.malloc(16), 0);
        CHECK.due("load(0) of another object", x.store(0, 9) ? y.load(0) : -1, 0);
    }
}
