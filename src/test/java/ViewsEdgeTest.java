import java.util.function.Supplier;

/** Promises 9 to 17, sentence by sentence: each WILD and each NONE, and the first and last of what there is. */
public final class ViewsEdgeTest {
    private static final int NONE = MeshedSpans.NONE;
    private static final int WILD = MeshedSpans.WILD;
    private static final int[] FAR = {-1, -2, -16, Integer.MIN_VALUE, Integer.MAX_VALUE};
    private static final Check CHECK = new Check("ViewsEdgeTest");

    public static void main(String[] args) {
        noAddressAtAll();
        nothingMapped();
        aFreeCell();
        insideACell();
        insideALargeBlock();
        afterFree();
        throughTheOtherSpan();
        sizeOfEachKind();
        firstAndLastAddress();
        heapOfALargeBlock();
        heapOfASmallBlock();
        freeSpansFromAllToNone();
        mappedOutsideTheSpans();
        mappedFirstAndLast();
        mappedNot();
        countOutsideTheSpans();
        countFirstAndLast();
        countOfAFreeSpanAndOfAMeshedOne();
        blocksFromNoneToAll();
        heapsOutsideTheClasses();
        heapsFromNoneToAll();
        attachedOutsideTheClasses();
        attachedNone();
        attachedFullOrEmpty();
        vectorOutsideTheClasses();
        vectorOfNone();
        vectorOutsideThePlaces();
        vectorThatIsEmpty();
        vectorOfAllCells();
        looksChangeNothing();
        CHECK.done();
    }

    /** "WILD when there is none" of promises 9 and 16. */
    private static void dueNoBlock(String where, Supplier<MeshedSpans> scene, int... addresses) {
        for (int a : addresses) {
            CHECK.due(where + ": size(" + a + ")", scene.get().size(a), WILD);
            CHECK.due(where + ": heapOf(" + a + ")", scene.get().heapOf(a), WILD);
        }
    }

    /** A cell of 8 words, the large blocks 16 .. 31 and 32 .. 95, and nothing behind. */
    private static MeshedSpans cellAndLarge() {
        MeshedSpans x = new MeshedSpans(1);
        x.malloc(8);
        x.malloc(16);
        x.malloc(64);
        return x;
    }

    private static void noAddressAtAll() {
        dueNoBlock("outside 0 .. 383", ViewsEdgeTest::cellAndLarge, FAR);
        dueNoBlock("outside 0 .. 383", ViewsEdgeTest::cellAndLarge, 384, 385, 400, 1 << 16);
        dueNoBlock("new", () -> new MeshedSpans(1), -1, 0, 383, 384);
    }

    private static void nothingMapped() {
        dueNoBlock("a span that is not mapped", ViewsEdgeTest::cellAndLarge, 96, 112, 368, 383);
    }

    private static void aFreeCell() {
        for (int c = 0; c < 4; c++) {
            int sizeClass = c;
            dueNoBlock("a free cell of class " + c, () -> Scenes.layOut(sizeClass, 2), 0);
            dueNoBlock("a free cell of class " + c, () -> Scenes.layOut(sizeClass, 1), 16 - (1 << c));
        }
    }

    private static void insideACell() {
        for (int c = 1; c < 4; c++) {
            int sizeClass = c;
            for (int i = 1; i < 1 << c; i++) {
                dueNoBlock("inside a cell of class " + c, () -> Scenes.layOut(sizeClass), i, 16 - i);
            }
        }
    }

    private static void insideALargeBlock() {
        dueNoBlock("inside a large block", ViewsEdgeTest::cellAndLarge, 17, 31, 33, 47, 48, 64, 80, 95);
    }

    private static void afterFree() {
        Supplier<MeshedSpans> scene = () -> {
            MeshedSpans x = Scenes.layOut(3, 2, 0);
            x.free(32);
            x.malloc(16);
            x.free(16);
            return x;
        };
        dueNoBlock("after free", scene, 0, 16, 24, 32);
        CHECK.due("size(8)", scene.get().size(8), 8);
        CHECK.due("size(40)", scene.get().size(40), 8);
    }

    private static MeshedSpans meshed() {
        MeshedSpans x = Scenes.layOut(2, 1, 6);
        x.mesh(2, 1);
        return x;
    }

    private static void throughTheOtherSpan() {
        dueNoBlock("through the other span", ViewsEdgeTest::meshed, 16, 4, 8);
        dueNoBlock("free in both spans", ViewsEdgeTest::meshed, 12, 28);
        for (int a : new int[] {0, 20, 24}) {
            CHECK.due("size(" + a + ")", meshed().size(a), 4);
            CHECK.due("heapOf(" + a + ")", meshed().heapOf(a), 1);
        }
    }

    /** "those of its cell, or 16 for each of its spans": not those that were asked for. */
    private static void sizeOfEachKind() {
        int[] asked = {1, 2, 3, 4, 5, 8, 9, 16, 17, 32, 33, 48, 49, 64};
        int[] due = {1, 2, 4, 4, 8, 8, 16, 16, 32, 32, 48, 48, 64, 64};
        for (int i = 0; i < asked.length; i++) {
            MeshedSpans x = new MeshedSpans(i);
            CHECK.due("size of a block of " + asked[i], x.size(x.malloc(asked[i])), due[i]);
        }
    }

    private static void firstAndLastAddress() {
        MeshedSpans x = Scenes.takeSpans(Scenes.crowded(16), 1);
        for (int i = 0; i < 16; i++) {
            x.malloc(1);
        }
        CHECK.due("size(0)", x.size(0), 16);
        CHECK.due("heapOf(0)", x.heapOf(0), NONE);
        CHECK.due("size(383)", x.size(383), 1);
        CHECK.due("heapOf(383)", x.heapOf(383), x.attached(0));
        CHECK.due("size(384)", x.size(384), WILD);
        CHECK.due("heapOf(-1)", x.heapOf(-1), WILD);
    }

    /** "NONE when it is large". */
    private static void heapOfALargeBlock() {
        for (int words : new int[] {9, 16, 17, 33, 64}) {
            MeshedSpans x = new MeshedSpans(1);
            CHECK.due("heapOf of " + words + " words", x.heapOf(x.malloc(words)), NONE);
            x.free(0);
            CHECK.due("heapOf when it is freed", x.heapOf(0), WILD);
        }
        MeshedSpans x = Scenes.layOut(3, 0);
        CHECK.due("malloc(16) where a miniheap was", x.malloc(16), 0);
        CHECK.due("heapOf(0)", x.heapOf(0), NONE);
        x.free(0);
        x.malloc(4);
        CHECK.due("heapOf where a large block was", x.heapOf(x.malloc(4)), 2);
    }

    private static void heapOfASmallBlock() {
        MeshedSpans x = new MeshedSpans(1);
        for (int c = 3; c >= 0; c--) {
            CHECK.due("heapOf in class " + c, x.heapOf(x.malloc(1 << c)), 3 - c);
        }
    }

    private static void freeSpansFromAllToNone() {
        MeshedSpans x = new MeshedSpans(1);
        CHECK.due("freeSpans() of a new object", x.freeSpans(), 12);
        for (int left = 8; left >= 0; left -= 4) {
            x.malloc(64);
            CHECK.due("freeSpans()", x.freeSpans(), left);
        }
        x.malloc(1);
        CHECK.due("freeSpans() after NONE", x.freeSpans(), 0);
        x.free(64);
        CHECK.due("freeSpans()", x.freeSpans(), 4);
        x.free(x.malloc(1));
        CHECK.due("freeSpans() with an attached miniheap without blocks", x.freeSpans(), 3);
        CHECK.due("freeSpans() after meshing", meshed().freeSpans(), 10);
    }

    /** "NONE when .. there is no such span". */
    private static void mappedOutsideTheSpans() {
        MeshedSpans x = Scenes.crowded(16);
        x.malloc(32);
        for (int span : FAR) {
            CHECK.due("mapped(" + span + ")", x.mapped(span), NONE);
        }
        for (int span : new int[] {24, 25, 48, 1 << 28}) {
            CHECK.due("mapped(" + span + ")", x.mapped(span), NONE);
        }
    }

    private static void mappedFirstAndLast() {
        MeshedSpans x = Scenes.crowded(16);
        CHECK.due("mapped(22)", x.mapped(22), NONE);
        CHECK.due("mapped(23)", x.mapped(23), NONE);
        int[] free = new int[2];
        int found = 0;
        for (int p = 0; p < 12 && found < 2; p++) {
            if (x.count(p) == 0) {
                free[found++] = p;
            }
        }
        x.malloc(32);
        CHECK.due("mapped(0)", x.mapped(0), 0);
        CHECK.due("mapped(22)", x.mapped(22), free[0]);
        CHECK.due("mapped(23)", x.mapped(23), free[1]);
        x = Scenes.takeSpans(new MeshedSpans(1), 12);
        CHECK.due("mapped(11)", x.mapped(11), 11);
    }

    /** "NONE when it is not mapped". */
    private static void mappedNot() {
        MeshedSpans x = new MeshedSpans(1);
        for (int span = 0; span < 24; span++) {
            CHECK.due("new: mapped(" + span + ")", x.mapped(span), NONE);
        }
        x.malloc(64);
        x.free(0);
        for (int span = 0; span < 24; span++) {
            CHECK.due("freed: mapped(" + span + ")", x.mapped(span), NONE);
        }
    }

    /** "NONE when there is no such span". */
    private static void countOutsideTheSpans() {
        MeshedSpans x = Scenes.takeSpans(new MeshedSpans(1), 12);
        for (int p : FAR) {
            CHECK.due("count(" + p + ")", x.count(p), NONE);
        }
        for (int p : new int[] {12, 13, 23, 24, 1 << 28}) {
            CHECK.due("count(" + p + ")", x.count(p), NONE);
        }
    }

    private static void countFirstAndLast() {
        MeshedSpans x = Scenes.takeSpans(new MeshedSpans(1), 12);
        CHECK.due("count(0)", x.count(0), 1);
        CHECK.due("count(11)", x.count(11), 1);
        x.free(0);
        x.free(16 * 11);
        CHECK.due("count(0)", x.count(0), 0);
        CHECK.due("count(11)", x.count(11), 0);
    }

    private static void countOfAFreeSpanAndOfAMeshedOne() {
        MeshedSpans x = new MeshedSpans(1);
        for (int p = 0; p < 12; p++) {
            CHECK.due("new: count(" + p + ")", x.count(p), 0);
        }
        x = meshed();
        CHECK.due("count(0): free", x.count(0), 0);
        CHECK.due("count(1): two", x.count(1), 2);
        x = Scenes.crowded(1);
        int sum = 0;
        for (int p = 0; p < 12; p++) {
            sum += x.count(p);
        }
        CHECK.due("all counts", sum, 22);
        CHECK.due("count of a group", x.count(x.mapped(20)), 4);
    }

    private static void blocksFromNoneToAll() {
        MeshedSpans x = new MeshedSpans(1);
        CHECK.due("blocks() of a new object", x.blocks(), 0);
        for (int i = 0; i < 192; i++) {
            x.malloc(1);
        }
        CHECK.due("blocks() of one word in all spans", x.blocks(), 192);
        CHECK.due("one more", x.malloc(1), NONE);
        CHECK.due("blocks() after NONE", x.blocks(), 192);
        x.free(192);
        CHECK.due("blocks() after a free that was refused", x.blocks(), 192);
        for (int a = 0; a < 192; a++) {
            x.free(a);
        }
        CHECK.due("blocks() after all frees", x.blocks(), 0);
        CHECK.due("blocks() after meshing", meshed().blocks(), 7);
    }

    /** "NONE when sizeClass is not 0 .. 3". */
    private static void heapsOutsideTheClasses() {
        for (int c : FAR) {
            CHECK.due("heaps(" + c + ")", cellAndLarge().heaps(c), NONE);
            CHECK.due("new: heaps(" + c + ")", new MeshedSpans(1).heaps(c), NONE);
        }
        for (int c : new int[] {4, 5, 32, 35, 256}) {
            CHECK.due("heaps(" + c + ")", cellAndLarge().heaps(c), NONE);
            CHECK.due("new: heaps(" + c + ")", new MeshedSpans(1).heaps(c), NONE);
        }
    }

    private static void heapsFromNoneToAll() {
        for (int c = 0; c < 4; c++) {
            MeshedSpans x = new MeshedSpans(1);
            CHECK.due("new: heaps(" + c + ")", x.heaps(c), 0);
            for (int i = 0; i < 12 * (16 >> c); i++) {
                x.malloc(1 << c);
            }
            CHECK.due("all spans: heaps(" + c + ")", x.heaps(c), 12);
            x.malloc(1 << c);
            CHECK.due("after NONE: heaps(" + c + ")", x.heaps(c), 12);
        }
        MeshedSpans x = Scenes.takeSpans(new MeshedSpans(1), 12);
        for (int c = 0; c < 4; c++) {
            CHECK.due("large blocks alone: heaps(" + c + ")", x.heaps(c), 0);
        }
    }

    /** "NONE when there is none or sizeClass is not 0 .. 3". */
    private static void attachedOutsideTheClasses() {
        for (int c : FAR) {
            CHECK.due("attached(" + c + ")", cellAndLarge().attached(c), NONE);
        }
        for (int c : new int[] {4, 5, 32, 35, 256}) {
            CHECK.due("attached(" + c + ")", cellAndLarge().attached(c), NONE);
        }
    }

    private static void attachedNone() {
        for (int c = 0; c < 4; c++) {
            CHECK.due("new: attached(" + c + ")", new MeshedSpans(1).attached(c), NONE);
            CHECK.due("class 3 alone: attached(" + c + ")", cellAndLarge().attached(c), c == 3 ? 0 : NONE);
        }
    }

    private static void attachedFullOrEmpty() {
        for (int c = 0; c < 4; c++) {
            MeshedSpans x = Scenes.layOut(c);
            CHECK.due("full: attached(" + c + ")", x.attached(c), 0);
            for (int a = 0; a < 16; a += 1 << c) {
                x.free(a);
            }
            CHECK.due("without blocks: attached(" + c + ")", x.attached(c), 0);
        }
    }

    /** "NONE when there is none": no such class. */
    private static void vectorOutsideTheClasses() {
        for (int c : FAR) {
            CHECK.due("vector(" + c + ", 0)", cellAndLarge().vector(c, 0), NONE);
        }
        for (int c : new int[] {4, 5, 32, 35, 256}) {
            CHECK.due("vector(" + c + ", 0)", cellAndLarge().vector(c, 0), NONE);
            CHECK.due("vector(" + c + ", -1)", cellAndLarge().vector(c, -1), NONE);
        }
    }

    /** "NONE when there is none": no attached miniheap. */
    private static void vectorOfNone() {
        for (int c = 0; c < 4; c++) {
            for (int k : new int[] {-1, 0, 1, 15, 16}) {
                CHECK.due("vector(" + c + ", " + k + ")", new MeshedSpans(1).vector(c, k), NONE);
            }
        }
    }

    /** "NONE when there is none": no such place. */
    private static void vectorOutsideThePlaces() {
        for (int c = 0; c < 4; c++) {
            MeshedSpans x = new MeshedSpans(1);
            x.malloc(1 << c);
            int n = (16 >> c) - 1;
            CHECK.due("vector(" + c + ", 0)", x.vector(c, 0) != NONE, true);
            CHECK.due("vector(" + c + ", last)", x.vector(c, n - 1) != NONE, true);
            for (int k : new int[] {n, n + 1, 15, 16, 17, 32}) {
                CHECK.due("vector(" + c + ", " + k + ")", x.vector(c, k), NONE);
            }
            for (int k : FAR) {
                CHECK.due("vector(" + c + ", " + k + ")", x.vector(c, k), NONE);
            }
        }
    }

    private static void vectorThatIsEmpty() {
        for (int c = 0; c < 4; c++) {
            for (int k : new int[] {-1, 0, 1, 15, 16}) {
                CHECK.due("full: vector(" + c + ", " + k + ")", Scenes.layOut(c).vector(c, k), NONE);
            }
        }
    }

    private static void vectorOfAllCells() {
        for (int c = 0; c < 4; c++) {
            MeshedSpans x = new MeshedSpans(1);
            x.free(x.malloc(1 << c));
            int seen = 0;
            for (int k = 0; k < 16 >> c; k++) {
                seen |= 1 << x.vector(c, k);
            }
            CHECK.due("all cells of class " + c, seen, (1 << (16 >> c)) - 1);
            CHECK.due("vector(" + c + ", behind)", x.vector(c, 16 >> c), NONE);
        }
    }

    private static void looksChangeNothing() {
        for (int i : new int[] {0, 2, 3, 4, 12, 20, 24, 383, 384, -1, Integer.MIN_VALUE, Integer.MAX_VALUE}) {
            Untouched.due(CHECK, "each look with " + i, ViewsEdgeTest::meshed, x -> {
                x.probes();
                x.size(i);
                x.freeSpans();
                x.mapped(i);
                x.count(i);
                x.blocks();
                x.heaps(i);
                x.attached(i);
                x.heapOf(i);
                x.vector(i, 0);
                x.vector(0, i);
                x.load(i);
            });
        }
    }
}
