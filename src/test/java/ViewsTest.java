/** Promises 9 to 17: size, freeSpans, mapped, count, blocks, heaps, attached, heapOf, vector. */
public final class ViewsTest {
    private static final int NONE = MeshedSpans.NONE;
    private static final int WILD = MeshedSpans.WILD;
    private static final int[] FAR = {Integer.MIN_VALUE, Integer.MIN_VALUE + 1, -17, -16, -2, -1, 384, 400, 1000, Integer.MAX_VALUE};
    private static final Check CHECK = new Check("ViewsTest");

    public static void main(String[] args) {
        size();
        freeSpans();
        mapped();
        count();
        blocks();
        heaps();
        attached();
        heapOf();
        vector();
        looksChangeNothing();
        CHECK.done();
    }

    /** Two miniheaps of class 3 with blocks 8 and 16, meshed; a full attached one; a large block. */
    private static MeshedSpans meshedPair() {
        MeshedSpans x = new MeshedSpans(1);
        for (int i = 0; i < 6; i++) {
            x.malloc(8);
        }
        x.free(0);
        x.free(24);
        CHECK.due("mesh(3, 1)", x.mesh(3, 1), 1);
        CHECK.due("malloc(40)", x.malloc(40), 48);
        return x;
    }

    private static void size() {
        for (int words = 1; words <= 64; words++) {
            MeshedSpans x = new MeshedSpans(words);
            int a = x.malloc(words);
            int due = words == 1 ? 1 : words == 2 ? 2 : words <= 4 ? 4 : words <= 8 ? 8 : (words + 15) / 16 * 16;
            CHECK.due("size of a block of " + words, x.size(a), due);
            for (int i = 1; i < due; i++) {
                CHECK.due("size inside a block of " + words, x.size(a + i), WILD);
            }
            x.free(a);
            CHECK.due("size of no block", x.size(a), WILD);
        }
        MeshedSpans x = meshedPair();
        int[] addresses = {0, 8, 16, 24, 32, 40, 48, 64, 80, 96};
        int[] due = {WILD, 8, 8, WILD, 8, 8, 48, WILD, WILD, WILD};
        for (int i = 0; i < addresses.length; i++) {
            CHECK.due("size(" + addresses[i] + ")", x.size(addresses[i]), due[i]);
        }
        for (int a : FAR) {
            CHECK.due("size(" + a + ")", x.size(a), WILD);
        }
    }

    private static void freeSpans() {
        MeshedSpans x = new MeshedSpans(1);
        for (int i = 0; i < 12; i++) {
            CHECK.due("freeSpans()", x.freeSpans(), 12 - i);
            x.malloc(16);
        }
        CHECK.due("freeSpans()", x.freeSpans(), 0);
        x.malloc(16);
        CHECK.due("freeSpans()", x.freeSpans(), 0);
        x.free(32);
        CHECK.due("freeSpans()", x.freeSpans(), 1);
        x.malloc(1);
        CHECK.due("freeSpans()", x.freeSpans(), 0);
        CHECK.due("freeSpans() after meshing", meshedPair().freeSpans(), 12 - 1 - 1 - 3);
    }

    private static void mapped() {
        MeshedSpans x = meshedPair();
        int kept = x.mapped(0);
        CHECK.due("mapped(0)", kept == 0 || kept == 1, true);
        int other = 1 - kept;
        int[] due = {kept, kept, 2, other, 3, 4};
        for (int v = 0; v < 24; v++) {
            CHECK.due("mapped(" + v + ")", x.mapped(v), v < due.length ? due[v] : NONE);
        }
        CHECK.due("mapped(24)", x.mapped(24), NONE);
        CHECK.due("mapped(25)", x.mapped(25), NONE);
        for (int v : FAR) {
            CHECK.due("mapped(" + v + ")", x.mapped(v), NONE);
        }
    }

    private static void count() {
        MeshedSpans x = meshedPair();
        int kept = x.mapped(0);
        for (int p = 0; p < 12; p++) {
            CHECK.due("count(" + p + ")", x.count(p), p == kept ? 2 : p < 5 ? 1 : 0);
        }
        x.free(48);
        CHECK.due("count of a span that was given back", x.count(1 - kept), 0);
        CHECK.due("count(3)", x.count(3), 0);
        CHECK.due("count(12)", x.count(12), NONE);
        CHECK.due("count(13)", x.count(13), NONE);
        for (int p : FAR) {
            CHECK.due("count(" + p + ")", x.count(p), NONE);
        }
    }

    private static void blocks() {
        MeshedSpans x = new MeshedSpans(1);
        int[] words = {1, 1, 2, 3, 8, 9, 64, 0, 65};
        int[] due = {1, 2, 3, 4, 5, 6, 7, 7, 7};
        for (int i = 0; i < words.length; i++) {
            x.malloc(words[i]);
            CHECK.due("blocks()", x.blocks(), due[i]);
        }
        x.free(-1);
        CHECK.due("blocks()", x.blocks(), 7);
        x.free(64);
        CHECK.due("blocks()", x.blocks(), 6);
        CHECK.due("blocks() after meshing", meshedPair().blocks(), 5);
    }

    private static void heaps() {
        MeshedSpans x = meshedPair();
        CHECK.due("heaps(3)", x.heaps(3), 2);
        for (int c = 0; c < 3; c++) {
            CHECK.due("heaps(" + c + ")", x.heaps(c), 0);
            x.malloc(1 << c);
            CHECK.due("heaps(" + c + ")", x.heaps(c), 1);
        }
        x.free(8);
        x.free(16);
        CHECK.due("heaps(3): released", x.heaps(3), 1);
        CHECK.due("heaps(4)", x.heaps(4), NONE);
        for (int c : FAR) {
            CHECK.due("heaps(" + c + ")", x.heaps(c), NONE);
        }
    }

    private static void attached() {
        MeshedSpans x = new MeshedSpans(1);
        x.malloc(16);
        for (int c = 0; c < 4; c++) {
            CHECK.due("attached(" + c + ")", x.attached(c), NONE);
        }
        x.malloc(8);
        x.malloc(1);
        x.malloc(4);
        x.malloc(8);
        CHECK.due("attached(3) with an empty vector", x.attached(3), 0);
        x.malloc(8);
        int[] due = {1, NONE, 2, 3};
        for (int c = 0; c < 4; c++) {
            CHECK.due("attached(" + c + ")", x.attached(c), due[c]);
        }
        CHECK.due("attached(4)", x.attached(4), NONE);
        for (int c : FAR) {
            CHECK.due("attached(" + c + ")", x.attached(c), NONE);
        }
    }

    private static void heapOf() {
        MeshedSpans x = meshedPair();
        int kept = x.mapped(0);
        int[] addresses = {0, 8, 9, 16, 24, 32, 40, 48, 49, 64, 96};
        int[] due = {WILD, kept, WILD, kept, WILD, 2, 2, NONE, WILD, WILD, WILD};
        for (int i = 0; i < addresses.length; i++) {
            CHECK.due("heapOf(" + addresses[i] + ")", x.heapOf(addresses[i]), due[i]);
        }
        int a = x.malloc(2);
        CHECK.due("heapOf of another class", x.heapOf(a), 3);
        for (int far : FAR) {
            CHECK.due("heapOf(" + far + ")", x.heapOf(far), WILD);
        }
    }

    private static void vector() {
        MeshedSpans x = new MeshedSpans(9);
        CHECK.due("vector(2, 0)", x.vector(2, 0), NONE);
        x.malloc(4);
        int[] row = new Lot(9).shuffled(Lot.upTo(4));
        CHECK.dueVector("after one malloc", x, 2, row[0], row[1], row[2]);
        for (int k : new int[] {-1, 3, 4, 15, 16, 17, Integer.MIN_VALUE, Integer.MAX_VALUE}) {
            CHECK.due("vector(2, " + k + ")", x.vector(2, k), NONE);
        }
        for (int i = 0; i < 3; i++) {
            x.malloc(4);
        }
        CHECK.dueVector("an empty one", x, 2);
        CHECK.due("vector(4, 0)", x.vector(4, 0), NONE);
        CHECK.due("vector(-1, 0)", x.vector(-1, 0), NONE);
        for (int c : FAR) {
            CHECK.due("vector(" + c + ", 0)", x.vector(c, 0), NONE);
        }
    }

    private static void looksChangeNothing() {
        MeshedSpans x = new MeshedSpans(14);
        MeshedSpans y = new MeshedSpans(14);
        for (int i = 0; i < 40; i++) {
            CHECK.due("malloc(2) beside looks", x.malloc(2), y.malloc(2));
            y.probes();
            y.size(i);
            y.freeSpans();
            y.mapped(i);
            y.count(i);
            y.blocks();
            y.heaps(1);
            y.attached(1);
            y.heapOf(i);
            y.vector(1, i);
            y.load(i);
        }
    }
}
