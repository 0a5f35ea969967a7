/** Promise 4: free, with putting back and releasing. */
public final class FreeTest {
    private static final int NONE = MeshedSpans.NONE;
    private static final Check CHECK = new Check("FreeTest");

    public static void main(String[] args) {
        wrongAddresses();
        insideABlock();
        twice();
        putBackIntoTheVector();
        firstCellBackDrawsNothing();
        notAttachedDrawsNothing();
        attachedIsNotReleased();
        notAttachedIsReleased();
        large();
        largeInTheMiddle();
        afterMeshing();
        meshedIsReleasedWhole();
        meshedAndAttached();
        CHECK.done();
    }

    private static void wrongAddresses() {
        MeshedSpans x = new MeshedSpans(1);
        x.malloc(64);
        for (int address : new int[] {-1, -16, 64, 383, 384, 400, Integer.MIN_VALUE, Integer.MAX_VALUE}) {
            CHECK.due("free(" + address + ")", x.free(address), false);
        }
        CHECK.due("blocks()", x.blocks(), 1);
        CHECK.due("freeSpans()", x.freeSpans(), 8);
    }

    private static void insideABlock() {
        MeshedSpans x = new MeshedSpans(1);
        int small = x.malloc(8);
        x.malloc(64);
        for (int i = 1; i < 8; i++) {
            CHECK.due("free inside a cell", x.free(small + i), false);
        }
        for (int i = 1; i < 64; i++) {
            CHECK.due("free inside a large block", x.free(16 + i), false);
        }
        CHECK.due("blocks()", x.blocks(), 2);
        CHECK.due("size of the cell", x.size(small), 8);
        CHECK.due("size of the large one", x.size(16), 64);
    }

    private static void twice() {
        MeshedSpans x = new MeshedSpans(1);
        int a = x.malloc(2);
        CHECK.due("free", x.free(a), true);
        CHECK.due("load", x.load(a), MeshedSpans.WILD_ACCESS);
        CHECK.due("size", x.size(a), MeshedSpans.WILD);
        CHECK.due("free again", x.free(a), false);
        CHECK.due("vector(1, 8): it was put back once", x.vector(1, 8), NONE);
        CHECK.due("blocks()", x.blocks(), 0);
    }

    private static void putBackIntoTheVector() {
        for (int seed = 0; seed < 12; seed++) {
            MeshedSpans x = new MeshedSpans(seed);
            Lot lot = new Lot(seed);
            int[] vector = lot.shuffled(Lot.upTo(16));
            for (int i = 0; i < 10; i++) {
                x.malloc(1);
            }
            int[] out = java.util.Arrays.copyOfRange(vector, 6, 16);
            vector = java.util.Arrays.copyOf(vector, 6);
            for (int cell : out) {
                CHECK.due("free(" + cell + ")", x.free(cell), true);
                vector = lot.putBack(vector, cell);
                CHECK.dueVector("seed " + seed, x, 0, vector);
            }
            CHECK.due("malloc(1)", x.malloc(1), vector[15]);
        }
    }

    private static void firstCellBackDrawsNothing() {
        for (int seed = 0; seed < 8; seed++) {
            MeshedSpans x = new MeshedSpans(1);
            for (int i = 0; i < 4; i++) {
                x.malloc(4);
            }
            x.seed(seed);
            x.free(8);
            CHECK.dueVector("one back", x, 2, 2);
            x.free(0);
            CHECK.dueVector("two back", x, 2, new Lot(seed).putBack(new int[] {2}, 0));
        }
    }

    private static void notAttachedDrawsNothing() {
        for (int seed = 0; seed < 8; seed++) {
            MeshedSpans x = new MeshedSpans(1);
            for (int i = 0; i < 9; i++) {
                x.malloc(4);
            }
            int[] left = {x.vector(2, 0), x.vector(2, 1), x.vector(2, 2)};
            x.seed(seed);
            x.free(0);
            x.free(4);
            x.free(8);
            CHECK.dueVector("the vector of the other one", x, 2, left);
            CHECK.due("malloc(2)", x.malloc(2), 48 + 2 * new Lot(seed).shuffled(Lot.upTo(8))[7]);
        }
    }

    private static void attachedIsNotReleased() {
        for (int c = 0; c < 4; c++) {
            MeshedSpans x = new MeshedSpans(c);
            x.free(x.malloc(1 << c));
            CHECK.due("heaps(" + c + ")", x.heaps(c), 1);
            CHECK.due("attached(" + c + ")", x.attached(c), 0);
            CHECK.due("freeSpans()", x.freeSpans(), 11);
            CHECK.due("mapped(0)", x.mapped(0), 0);
            CHECK.due("vector(" + c + ", last)", x.vector(c, (16 >> c) - 1) != NONE, true);
        }
    }

    private static void notAttachedIsReleased() {
        MeshedSpans x = new MeshedSpans(2);
        for (int i = 0; i < 5; i++) {
            x.malloc(4);
        }
        x.free(0);
        x.free(4);
        x.free(12);
        CHECK.due("heaps(2) with one block left", x.heaps(2), 2);
        CHECK.due("mapped(0)", x.mapped(0), 0);
        CHECK.due("free(8)", x.free(8), true);
        CHECK.due("heaps(2)", x.heaps(2), 1);
        CHECK.due("mapped(0)", x.mapped(0), NONE);
        CHECK.due("count(0)", x.count(0), 0);
        CHECK.due("freeSpans()", x.freeSpans(), 11);
        CHECK.due("attached(2)", x.attached(2), 1);
        CHECK.due("malloc(16): the span is free", x.malloc(16), 0);
        CHECK.due("mapped(0)", x.mapped(0), 0);
        CHECK.due("heapOf(0)", x.heapOf(0), NONE);
    }

    private static void large() {
        MeshedSpans x = new MeshedSpans(2);
        x.malloc(64);
        CHECK.due("free(0)", x.free(0), true);
        CHECK.due("freeSpans()", x.freeSpans(), 12);
        for (int v = 0; v < 4; v++) {
            CHECK.due("mapped(" + v + ")", x.mapped(v), NONE);
            CHECK.due("count(" + v + ")", x.count(v), 0);
        }
        for (int a = 0; a < 64; a++) {
            CHECK.due("load(" + a + ")", x.load(a), MeshedSpans.WILD_ACCESS);
        }
        CHECK.due("blocks()", x.blocks(), 0);
        CHECK.due("free(0)", x.free(0), false);
    }

    private static void largeInTheMiddle() {
        MeshedSpans x = new MeshedSpans(2);
        x.malloc(20);
        x.malloc(33);
        x.malloc(9);
        x.store(0, 1);
        x.store(80, 2);
        CHECK.due("free(32)", x.free(32), true);
        int[] due = {0, 1, NONE, NONE, NONE, 5, NONE};
        for (int v = 0; v < due.length; v++) {
            CHECK.due("mapped(" + v + ")", x.mapped(v), due[v]);
        }
        CHECK.due("load(0)", x.load(0), 1);
        CHECK.due("load(80)", x.load(80), 2);
        CHECK.due("blocks()", x.blocks(), 2);
    }

    /** Miniheap 0 with cell 0 (span 0) is meshed with miniheap 1 with cells 1 and 2 (span 1). */
    private static MeshedSpans meshed() {
        MeshedSpans x = new MeshedSpans(5);
        for (int i = 0; i < 12; i++) {
            x.malloc(4);
        }
        for (int address : new int[] {4, 8, 12, 16, 28}) {
            x.free(address);
        }
        CHECK.due("mesh(2, 1)", x.mesh(2, 1), 1);
        return x;
    }

    private static void afterMeshing() {
        MeshedSpans x = meshed();
        CHECK.due("free(16): its block is in span 0", x.free(16), false);
        CHECK.due("free(4): its block is in span 1", x.free(4), false);
        CHECK.due("free(8): its block is in span 1", x.free(8), false);
        CHECK.due("free(28)", x.free(28), false);
        x.store(0, 7);
        x.store(24, 9);
        CHECK.due("free(20)", x.free(20), true);
        CHECK.due("load(20)", x.load(20), MeshedSpans.WILD_ACCESS);
        CHECK.due("load(0)", x.load(0), 7);
        CHECK.due("load(24)", x.load(24), 9);
        CHECK.due("mapped(1): a span without blocks may stay", x.mapped(1), 1);
    }

    private static void meshedIsReleasedWhole() {
        MeshedSpans x = meshed();
        x.free(20);
        x.free(24);
        CHECK.due("mapped(0)", x.mapped(0), 1);
        CHECK.due("mapped(1)", x.mapped(1), 1);
        CHECK.due("heaps(2)", x.heaps(2), 2);
        CHECK.due("free(0)", x.free(0), true);
        CHECK.due("mapped(0)", x.mapped(0), NONE);
        CHECK.due("mapped(1)", x.mapped(1), NONE);
        CHECK.due("count(1)", x.count(1), 0);
        CHECK.due("freeSpans()", x.freeSpans(), 11);
        CHECK.due("heaps(2)", x.heaps(2), 1);
        CHECK.due("blocks()", x.blocks(), 4);
    }

    private static void meshedAndAttached() {
        MeshedSpans x = meshed();
        CHECK.due("malloc(4)", x.malloc(4), 28);
        CHECK.due("attached(2)", x.attached(2), 1);
        x.seed(21);
        Lot lot = new Lot(21);
        x.free(0);
        int[] vector = lot.putBack(new int[0], 0);
        CHECK.dueVector("cell 0 by span 0", x, 2, vector);
        x.free(24);
        vector = lot.putBack(vector, 2);
        CHECK.dueVector("cell 2 by span 1", x, 2, vector);
        x.free(20);
        vector = lot.putBack(vector, 1);
        x.free(28);
        vector = lot.putBack(vector, 3);
        CHECK.dueVector("all", x, 2, vector);
        CHECK.due("mapped(0): attached, so not released", x.mapped(0), 1);
        CHECK.due("count(1)", x.count(1), 2);
        CHECK.due("malloc(4): in the span it was made with", x.malloc(4), 16 + 4 * vector[3]);
    }
}
