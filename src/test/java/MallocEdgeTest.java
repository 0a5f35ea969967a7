import java.util.function.Supplier;

/** Promise 3, sentence by sentence: where malloc is refused, and where it is not refused just yet. */
public final class MallocEdgeTest {
    private static final int NONE = MeshedSpans.NONE;
    private static final Check CHECK = new Check("MallocEdgeTest");

    public static void main(String[] args) {
        tooFewWords();
        tooManyWords();
        bordersOfTheClasses();
        bordersOfTheSpans();
        noPhysicalSpanAndNoMiniheap();
        noPhysicalSpanAndAFullMiniheap();
        noPhysicalSpanButRoomInTheAttachedOne();
        noPhysicalSpanButRoomInAnotherOne();
        roomInAnotherClassIsNone();
        onePhysicalSpanTooFew();
        justEnoughPhysicalSpans();
        noVirtualSpanAndNoMiniheap();
        noVirtualSpanAndAFullMiniheap();
        noVirtualSpanButRoomInTheAttachedOne();
        noVirtualSpanButRoomInAnotherOne();
        noVirtualSpanForALargeBlock();
        rowOneVirtualSpanTooShort();
        rowJustLongEnough();
        aRowDoesNotGoRoundTheEnd();
        lowestRowThatIsLongEnough();
        lowestPhysicalSpansInTheirOrder();
        largeWordsAreZero();
        largeWordsAreZeroInScatteredSpans();
        CHECK.done();
    }

    private static void dueRefused(String where, Supplier<MeshedSpans> scene, int... words) {
        for (int w : words) {
            CHECK.due(where + ": malloc(" + w + ")", scene.get().malloc(w), NONE);
            Untouched.due(CHECK, where + ": malloc(" + w + ")", scene, x -> x.malloc(w));
        }
    }

    /** An attached miniheap with room, a full one and a large block. */
    private static MeshedSpans someBlocks() {
        MeshedSpans x = new MeshedSpans(4);
        x.malloc(1);
        x.malloc(8);
        x.malloc(8);
        x.malloc(20);
        return x;
    }

    /** "NONE, changing nothing, when words is not 1 .. 64": below. */
    private static void tooFewWords() {
        dueRefused("new", () -> new MeshedSpans(1), 0, -1);
        dueRefused("some blocks", MallocEdgeTest::someBlocks, 0, -1, -8, -16, -64, Integer.MIN_VALUE, Integer.MIN_VALUE + 1);
        CHECK.due("malloc(1) is not refused", new MeshedSpans(1).malloc(1) != NONE, true);
    }

    /** "NONE, changing nothing, when words is not 1 .. 64": above, also where rounding up would wrap. */
    private static void tooManyWords() {
        dueRefused("new", () -> new MeshedSpans(1), 65, Integer.MAX_VALUE);
        dueRefused("some blocks", MallocEdgeTest::someBlocks, 65, 66, 80, 192, 256, 257, 1 << 16, (1 << 16) + 1,
            Integer.MAX_VALUE - 15, Integer.MAX_VALUE - 14, Integer.MAX_VALUE);
        CHECK.due("malloc(64) is not refused", new MeshedSpans(1).malloc(64), 0);
    }

    /** "up to 8 words a cell of the least class whose blocks are big enough; from 9 .. it is large". */
    private static void bordersOfTheClasses() {
        int[] words = {1, 2, 3, 4, 5, 8, 9};
        int[] classes = {0, 1, 2, 2, 3, 3, NONE};
        for (int i = 0; i < words.length; i++) {
            MeshedSpans x = new MeshedSpans(3);
            int a = x.malloc(words[i]);
            for (int c = 0; c < 4; c++) {
                CHECK.due("malloc(" + words[i] + "): heaps(" + c + ")", x.heaps(c), c == classes[i] ? 1 : 0);
            }
            CHECK.due("malloc(" + words[i] + "): heapOf", x.heapOf(a), classes[i] == NONE ? NONE : 0);
        }
    }

    /** "so many spans as are needed". */
    private static void bordersOfTheSpans() {
        int[] words = {9, 16, 17, 32, 33, 48, 49, 64};
        int[] spans = {1, 1, 2, 2, 3, 3, 4, 4};
        for (int i = 0; i < words.length; i++) {
            MeshedSpans x = new MeshedSpans(3);
            CHECK.due("malloc(" + words[i] + ")", x.malloc(words[i]), 0);
            CHECK.due("malloc(" + words[i] + "): freeSpans()", x.freeSpans(), 12 - spans[i]);
            CHECK.due("malloc(" + words[i] + "): mapped(last)", x.mapped(spans[i] - 1), spans[i] - 1);
            CHECK.due("malloc(" + words[i] + "): mapped(behind)", x.mapped(spans[i]), NONE);
        }
    }

    /** "there are not enough physical spans": a class without a miniheap needs one. */
    private static void noPhysicalSpanAndNoMiniheap() {
        dueRefused("all spans taken", () -> Scenes.takeSpans(new MeshedSpans(1), 12), 1, 2, 3, 4, 5, 8);
        MeshedSpans x = Scenes.takeSpans(new MeshedSpans(1), 11);
        CHECK.due("malloc(1) in the last span", x.malloc(1) / 16, 11);
    }

    private static MeshedSpans fullAndNoPhysicalSpan(int sizeClass) {
        return Scenes.takeSpans(Scenes.layOut(sizeClass), 11);
    }

    /** "(also no draws and nothing attached or detached)": the full miniheap stays attached. */
    private static void noPhysicalSpanAndAFullMiniheap() {
        for (int c = 0; c < 4; c++) {
            int sizeClass = c;
            dueRefused("a full miniheap of class " + c, () -> fullAndNoPhysicalSpan(sizeClass), 1 << c);
            MeshedSpans x = fullAndNoPhysicalSpan(c);
            x.malloc(1 << c);
            CHECK.due("attached(" + c + ") after NONE", x.attached(c), 0);
            x.free(0);
            CHECK.dueVector("put back, for it is attached", x, c, 0);
            CHECK.due("malloc(" + (1 << c) + ") then", x.malloc(1 << c), 0);
            CHECK.due("malloc(" + (1 << c) + ") again", x.malloc(1 << c), NONE);
        }
    }

    private static void noPhysicalSpanButRoomInTheAttachedOne() {
        MeshedSpans x = new MeshedSpans(1);
        x.malloc(8);
        Scenes.takeSpans(x, 11);
        CHECK.due("freeSpans()", x.freeSpans(), 0);
        CHECK.due("malloc(8) of the last cell", x.malloc(8) / 16, 0);
        CHECK.due("malloc(8)", x.malloc(8), NONE);
    }

    private static void noPhysicalSpanButRoomInAnotherOne() {
        MeshedSpans x = Scenes.takeSpans(Scenes.layOut(3, 2), 10);
        CHECK.due("freeSpans()", x.freeSpans(), 0);
        CHECK.due("attached(3)", x.attached(3), 1);
        CHECK.due("malloc(8) in the other miniheap", x.malloc(8), 0);
        CHECK.due("attached(3)", x.attached(3), 0);
        CHECK.due("malloc(8)", x.malloc(8), NONE);
        CHECK.due("attached(3) after NONE", x.attached(3), 0);
    }

    /** "of the miniheaps of the class": room in those of other classes does not count. */
    private static void roomInAnotherClassIsNone() {
        Supplier<MeshedSpans> scene = () -> {
            MeshedSpans x = Scenes.layOut(3);
            x.malloc(4);
            return Scenes.takeSpans(x, 10);
        };
        dueRefused("room for 4 words alone", scene, 5, 8, 2, 1);
        CHECK.due("malloc(3)", scene.get().malloc(3) / 16, 1);
    }

    /** "there are not enough physical spans": n are needed, n - 1 are free. */
    private static void onePhysicalSpanTooFew() {
        for (int needed = 1; needed <= 4; needed++) {
            int taken = 12 - needed + 1;
            Supplier<MeshedSpans> scene = () -> Scenes.takeSpans(new MeshedSpans(1), taken);
            dueRefused(needed - 1 + " spans free", scene, Math.max(9, 16 * needed - 15), 16 * needed);
        }
        dueRefused("no span free", () -> Scenes.takeSpans(new MeshedSpans(1), 12), 9, 16, 17, 64);
    }

    private static void justEnoughPhysicalSpans() {
        for (int needed = 1; needed <= 4; needed++) {
            MeshedSpans x = Scenes.takeSpans(new MeshedSpans(1), 12 - needed);
            CHECK.due("malloc(" + 16 * needed + ")", x.malloc(16 * needed), 16 * (12 - needed));
            CHECK.due("freeSpans()", x.freeSpans(), 0);
            CHECK.due("mapped(11)", x.mapped(11), 11);
        }
    }

    /** All 24 virtual spans are mapped, to 9 physical ones; class 2 has an attached one with room. */
    private static MeshedSpans noVirtualSpan() {
        MeshedSpans x = Scenes.crowded(1);
        x.malloc(32);
        return x;
    }

    /** The same, but that the attached miniheap of class 2 is full. */
    private static MeshedSpans noVirtualSpanAndFull() {
        MeshedSpans x = noVirtualSpan();
        for (int i = 0; i < 4; i++) {
            x.malloc(4);
        }
        return x;
    }

    private static void noVirtualSpanAndNoMiniheap() {
        CHECK.due("freeSpans()", noVirtualSpan().freeSpans(), 3);
        CHECK.due("mapped(23)", noVirtualSpan().mapped(23) != NONE, true);
        dueRefused("no virtual span", MallocEdgeTest::noVirtualSpan, 2, 5, 8);
    }

    private static void noVirtualSpanAndAFullMiniheap() {
        dueRefused("no virtual span, a full miniheap", MallocEdgeTest::noVirtualSpanAndFull, 3, 4);
        MeshedSpans x = noVirtualSpanAndFull();
        int number = x.attached(2);
        x.malloc(4);
        CHECK.due("attached(2) after NONE", x.attached(2), number);
        x.free(16 * 21);
        CHECK.due("malloc(4) then", x.malloc(4), 16 * 21);
    }

    private static void noVirtualSpanButRoomInTheAttachedOne() {
        MeshedSpans x = noVirtualSpan();
        for (int i = 0; i < 4; i++) {
            CHECK.due("malloc(4) in the attached one", x.malloc(4) / 16, 21);
        }
        CHECK.due("malloc(1) in the attached one", x.malloc(1) / 16, 0);
    }

    private static void noVirtualSpanButRoomInAnotherOne() {
        MeshedSpans x = noVirtualSpanAndFull();
        int number = x.heapOf(16);
        int home = homeOfGroup(x, 1);
        x.free(36);
        CHECK.due("malloc(4) in a meshed miniheap", x.malloc(4), 16 * home + 4);
        CHECK.due("attached(2)", x.attached(2), number);
        CHECK.due("malloc(4)", x.malloc(4), NONE);
    }

    /** The kept miniheap still has its physical span, which for the first group was that of its virtual one. */
    private static int homeOfGroup(MeshedSpans x, int first) {
        return x.mapped(first);
    }

    private static void noVirtualSpanForALargeBlock() {
        dueRefused("no virtual span", MallocEdgeTest::noVirtualSpan, 9, 16, 17, 48);
    }

    /** Spans 22 and 23 are not mapped, five physical spans are free. */
    private static MeshedSpans rowOfTwo() {
        return Scenes.crowded(1);
    }

    private static MeshedSpans rowOfOne() {
        return Scenes.takeSpans(Scenes.crowded(1), 1);
    }

    /** Spans 18 to 20 and 22 to 23 are not mapped. */
    private static MeshedSpans rowOfThree() {
        MeshedSpans x = Scenes.crowded(1);
        Scenes.freeGroup(x, 17);
        return Scenes.takeSpans(x, 1);
    }

    /** "or no such row of virtual spans": n neighbouring ones are needed, n - 1 are there. */
    private static void rowOneVirtualSpanTooShort() {
        CHECK.due("freeSpans() with a row of one", rowOfOne().freeSpans(), 4);
        dueRefused("a row of one", MallocEdgeTest::rowOfOne, 17, 32);
        CHECK.due("freeSpans() with a row of two", rowOfTwo().freeSpans(), 5);
        dueRefused("a row of two", MallocEdgeTest::rowOfTwo, 33, 48, 49, 64);
        CHECK.due("freeSpans() with a row of three", rowOfThree().freeSpans(), 5);
        dueRefused("a row of three", MallocEdgeTest::rowOfThree, 49, 64);
    }

    private static void rowJustLongEnough() {
        CHECK.due("malloc(16) in a row of one", rowOfOne().malloc(16), 16 * 23);
        CHECK.due("malloc(32) in a row of two", rowOfTwo().malloc(32), 16 * 22);
        CHECK.due("malloc(48) in a row of three", rowOfThree().malloc(48), 16 * 18);
        MeshedSpans x = Scenes.crowded(1);
        Scenes.freeGroup(x, 17);
        CHECK.due("malloc(64) in a row of four", x.malloc(64), 16 * 17);
        CHECK.due("mapped(20)", x.mapped(20) != NONE, true);
    }

    private static MeshedSpans holesAtBothEnds() {
        MeshedSpans x = Scenes.takeSpans(Scenes.crowded(16), 1);
        x.free(0);
        return x;
    }

    /** "neighbouring virtual spans": 23 and 0 are none. */
    private static void aRowDoesNotGoRoundTheEnd() {
        CHECK.due("mapped(0)", holesAtBothEnds().mapped(0), NONE);
        CHECK.due("mapped(1)", holesAtBothEnds().mapped(1) != NONE, true);
        CHECK.due("mapped(22)", holesAtBothEnds().mapped(22) != NONE, true);
        CHECK.due("mapped(23)", holesAtBothEnds().mapped(23), NONE);
        CHECK.due("freeSpans()", holesAtBothEnds().freeSpans(), 5);
        dueRefused("holes at 0 and 23", MallocEdgeTest::holesAtBothEnds, 17, 32, 33);
        CHECK.due("malloc(16)", holesAtBothEnds().malloc(16), 0);
    }

    /** "the lowest such row of which none is mapped". */
    private static void lowestRowThatIsLongEnough() {
        MeshedSpans x = Scenes.crowded(16);
        x.free(0);
        CHECK.due("malloc(32) goes past the hole", x.malloc(32), 16 * 22);
        CHECK.due("malloc(16) takes the hole", x.malloc(16), 0);
        x = Scenes.takeSpans(new MeshedSpans(1), 8);
        for (int span : new int[] {0, 2, 3, 5, 6, 7}) {
            x.free(16 * span);
        }
        CHECK.due("malloc(33)", x.malloc(33), 16 * 5);
        CHECK.due("malloc(17)", x.malloc(17), 16 * 2);
        CHECK.due("malloc(17) behind all", x.malloc(17), 16 * 8);
        CHECK.due("malloc(1)", x.malloc(1) / 16, 0);
    }

    /** "the lowest free physical ones, mapped in this order to neighbouring virtual spans". */
    private static void lowestPhysicalSpansInTheirOrder() {
        MeshedSpans x = Scenes.takeSpans(new MeshedSpans(1), 12);
        for (int span : new int[] {11, 4, 0, 7}) {
            x.free(16 * span);
        }
        CHECK.due("malloc(64)", x.malloc(64), 16 * 11);
        int[] due = {0, 4, 7, 11};
        for (int i = 0; i < 4; i++) {
            CHECK.due("mapped(" + (11 + i) + ")", x.mapped(11 + i), due[i]);
        }
    }

    /** "their words are 0": also in spans that held words before. */
    private static void largeWordsAreZero() {
        MeshedSpans x = new MeshedSpans(1);
        x.malloc(64);
        for (int a = 0; a < 64; a++) {
            x.store(a, a + 1);
        }
        x.free(0);
        x.malloc(49);
        for (int a = 0; a < 64; a++) {
            CHECK.due("load(" + a + ")", x.load(a), 0);
        }
    }

    /** "their words are 0", and those alone: from the first word of all spans to the last. */
    private static void largeWordsAreZeroInScatteredSpans() {
        MeshedSpans x = Scenes.takeSpans(new MeshedSpans(1), 12);
        for (int a = 0; a < 192; a++) {
            x.store(a, a + 1);
        }
        for (int span : new int[] {11, 4, 0, 7}) {
            x.free(16 * span);
        }
        int address = x.malloc(64);
        CHECK.due("malloc(64)", address, 16 * 11);
        for (int a = address; a < address + 64; a++) {
            CHECK.due("load(" + a + ") of the new block", x.load(a), 0);
        }
        for (int span : new int[] {1, 2, 3, 5, 6, 8, 9, 10}) {
            for (int a = 16 * span; a < 16 * span + 16; a++) {
                CHECK.due("load(" + a + ") of another block", x.load(a), a + 1);
            }
        }
    }
}
