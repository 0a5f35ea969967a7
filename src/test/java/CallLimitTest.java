import com.sun.management.ThreadMXBean;
import java.lang.management.ManagementFactory;

/** "An object is used for at most 512 calls after it has been made": the 512th is answered as due. */
public final class CallLimitTest {
    private static final int CALLS = 512;
    private static final int NONE = MeshedSpans.NONE;
    private static final Check CHECK = new Check("CallLimitTest");

    private static long sink = 0;

    public static void main(String[] args) {
        theLastCallOfEachKind();
        highNumbers();
        manyBlocks();
        manyDraws();
        manySeeds();
        callsMakeNoObjects();
        CHECK.done();
    }

    /** An object on which 511 calls were made, and which holds a meshed pair. */
    private static MeshedSpans worn() {
        MeshedSpans x = Scenes.layOut(2, 1, 6);
        int made = 12 + 5;
        x.store(20, -4);
        x.mesh(2, 16);
        x.seed(9);
        made += 3;
        for (; made < CALLS - 1; made++) {
            x.malloc(0);
        }
        return x;
    }

    private static void theLastCallOfEachKind() {
        CHECK.due("malloc(4)", worn().malloc(4), 28);
        CHECK.due("malloc(64)", worn().malloc(64), 48);
        CHECK.due("malloc(1)", worn().malloc(1), 48 + new Lot(9).shuffled(Lot.upTo(16))[15]);
        CHECK.due("malloc(65)", worn().malloc(65), NONE);
        CHECK.due("free(20)", worn().free(20), true);
        CHECK.due("free(16)", worn().free(16), false);
        CHECK.due("load(20)", worn().load(20), -4);
        CHECK.due("load(16)", worn().load(16), MeshedSpans.WILD_ACCESS);
        CHECK.due("store(20, 1)", worn().store(20, 1), true);
        CHECK.due("store(16, 1)", worn().store(16, 1), false);
        CHECK.due("mesh(2, 16)", worn().mesh(2, 16), 0);
        CHECK.due("mesh(4, 16)", worn().mesh(4, 16), NONE);
        CHECK.due("probes()", worn().probes(), 1);
        CHECK.due("size(20)", worn().size(20), 4);
        CHECK.due("freeSpans()", worn().freeSpans(), 10);
        CHECK.due("mapped(0)", worn().mapped(0), 1);
        CHECK.due("count(1)", worn().count(1), 2);
        CHECK.due("blocks()", worn().blocks(), 7);
        CHECK.due("heaps(2)", worn().heaps(2), 2);
        CHECK.due("attached(2)", worn().attached(2), 2);
        CHECK.due("heapOf(0)", worn().heapOf(0), 1);
        CHECK.due("vector(2, 0)", worn().vector(2, 0), NONE);
    }

    /** As many miniheaps as 512 calls can make: two mallocs fill one, two frees release it. */
    private static void highNumbers() {
        MeshedSpans x = new MeshedSpans(1);
        int[] first = new int[CALLS];
        int[] second = new int[CALLS];
        int made = 0;
        int number = 0;
        while (made + 6 <= CALLS) {
            if (number >= 11) {
                CHECK.due("free", x.free(first[number - 11]), true);
                CHECK.due("free", x.free(second[number - 11]), true);
                made += 2;
            }
            first[number] = x.malloc(8);
            second[number] = x.malloc(8);
            made += 2;
            number++;
        }
        CHECK.due("the numbers went above 127", number > 128, true);
        CHECK.due("attached(3)", x.attached(3), number - 1);
        CHECK.due("heapOf", x.heapOf(first[number - 1]), number - 1);
    }

    /** All 192 words as blocks, each written and read. */
    private static void manyBlocks() {
        MeshedSpans x = new MeshedSpans(8);
        boolean[] seen = new boolean[192];
        for (int i = 0; i < 192; i++) {
            int a = x.malloc(1);
            CHECK.due("an address that is not taken", a >= 0 && a < 192 && !seen[a], true);
            seen[a] = true;
            x.store(a, 7 * a);
        }
        for (int i = 0; i < CALLS - 2 * 192; i++) {
            CHECK.due("load(" + i + ")", x.load(i), 7 * i);
        }
    }

    /** A block made and freed again and again: the draws go on as the document's. */
    private static void manyDraws() {
        MeshedSpans x = new MeshedSpans(-77);
        Lot lot = new Lot(-77);
        int[] vector = lot.shuffled(Lot.upTo(16));
        for (int i = 0; i < CALLS / 2; i++) {
            int due = vector[vector.length - 1];
            CHECK.due("malloc(1), call " + 2 * i, x.malloc(1), due);
            x.free(due);
            vector = lot.putBack(java.util.Arrays.copyOf(vector, vector.length - 1), due);
        }
    }

    private static void manySeeds() {
        MeshedSpans x = new MeshedSpans(1);
        for (int i = 0; i < CALLS - 1; i++) {
            x.seed(i);
        }
        CHECK.due("malloc(1)", x.malloc(1), new Lot(CALLS - 2).shuffled(Lot.upTo(16))[15]);
    }

    /** All calls of a run live in one room, so no call but the constructor may take any of it. */
    private static void callsMakeNoObjects() {
        ThreadMXBean thread = (ThreadMXBean) ManagementFactory.getThreadMXBean();
        if (!thread.isThreadAllocatedMemorySupported() || !thread.isThreadAllocatedMemoryEnabled()) {
            return;
        }
        MeshedSpans[] objects = new MeshedSpans[100];
        for (int i = 0; i < objects.length; i++) {
            objects[i] = new MeshedSpans(i);
        }
        useUp(new MeshedSpans(1));
        long before = thread.getThreadAllocatedBytes(Thread.currentThread().getId());
        for (MeshedSpans x : objects) {
            useUp(x);
        }
        long taken = thread.getThreadAllocatedBytes(Thread.currentThread().getId()) - before;
        CHECK.due("bytes taken by " + objects.length * CALLS + " calls are less than one for each", taken < objects.length * CALLS, true);
    }

    private static void useUp(MeshedSpans x) {
        for (int i = 0; i < CALLS / 17; i++) {
            int a = x.malloc(1 + i % 8);
            int b = x.malloc(9 + i % 50);
            sink += x.store(a, i) ? x.load(a) : 0;
            sink += x.free(b) ? 1 : 0;
            sink += i % 3 == 0 || x.free(a) ? 1 : 0;
            sink += x.mesh(i % 4, 16) + x.probes() + x.size(a) + x.freeSpans() + x.mapped(i) + x.count(i);
            sink += x.blocks() + x.heaps(i) + x.attached(i) + x.heapOf(a) + x.vector(i % 4, i);
        }
    }
}
