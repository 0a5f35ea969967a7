import java.util.function.Supplier;

/** Promises 5 and 6, sentence by sentence: what is not inside a live block, and the ends of what is. */
public final class AccessEdgeTest {
    private static final long WILD_ACCESS = MeshedSpans.WILD_ACCESS;
    private static final Check CHECK = new Check("AccessEdgeTest");

    public static void main(String[] args) {
        noAddressAtAll();
        nothingMapped();
        aFreeCell();
        theEndsOfACell();
        theEndsOfALargeBlock();
        firstAndLastAddress();
        afterFree();
        afterRelease();
        afterFreeOfALargeBlock();
        throughTheOtherSpan();
        aCellFreeInBothSpans();
        theGreatestAndTheLeastInt();
        wildAccessIsNoInt();
        loadChangesNothing();
        CHECK.done();
    }

    /** "WILD_ACCESS otherwise" and "false, changing nothing, otherwise". */
    private static void dueWild(String where, Supplier<MeshedSpans> scene, int... addresses) {
        for (int a : addresses) {
            CHECK.due(where + ": load(" + a + ")", scene.get().load(a), WILD_ACCESS);
            CHECK.due(where + ": store(" + a + ", 0)", scene.get().store(a, 0), false);
            CHECK.due(where + ": store(" + a + ", 77)", scene.get().store(a, 77), false);
            Untouched.due(CHECK, where + ": load(" + a + ")", scene, x -> x.load(a));
            Untouched.due(CHECK, where + ": store(" + a + ", 77)", scene, x -> x.store(a, 77));
        }
    }

    /** Large blocks at 0 .. 15 and 16 .. 47, every word of which is its address + 1. */
    private static MeshedSpans twoLarge() {
        MeshedSpans x = new MeshedSpans(1);
        x.malloc(16);
        x.malloc(32);
        for (int a = 0; a < 48; a++) {
            x.store(a, a + 1);
        }
        return x;
    }

    private static void noAddressAtAll() {
        dueWild("below 0", AccessEdgeTest::twoLarge, -1, -15, -16, -384, Integer.MIN_VALUE);
        dueWild("above 383", AccessEdgeTest::twoLarge, 384, 385, 399, 400, 1 << 16, Integer.MAX_VALUE);
        dueWild("new", () -> new MeshedSpans(1), -1, 0, 383, 384);
    }

    private static void nothingMapped() {
        dueWild("a span that is not mapped", AccessEdgeTest::twoLarge, 48, 63, 383);
    }

    /** A mapped span whose cell is free is not enough. */
    private static void aFreeCell() {
        for (int c = 0; c < 4; c++) {
            int sizeClass = c;
            int words = 1 << c;
            int last = 16 / words - 1;
            dueWild("cell 0 of class " + c, () -> Scenes.layOut(sizeClass, 1 << last), 0, words - 1);
            dueWild("last cell of class " + c, () -> Scenes.layOut(sizeClass, 1), 16 - words, 15);
        }
    }

    private static void theEndsOfACell() {
        for (int c = 0; c < 4; c++) {
            int words = 1 << c;
            MeshedSpans x = Scenes.layOut(c, 2);
            int[] in = {words, 2 * words - 1};
            for (int a : in) {
                CHECK.due("class " + c + ": store(" + a + ", 5)", x.store(a, 5), true);
                CHECK.due("class " + c + ": load(" + a + ")", x.load(a), 5);
            }
            CHECK.due("class " + c + ": load before", x.load(words - 1), WILD_ACCESS);
            CHECK.due("class " + c + ": store before", x.store(words - 1, 5), false);
            CHECK.due("class " + c + ": load behind", x.load(2 * words), words == 8 ? 0 : WILD_ACCESS);
        }
    }

    private static void theEndsOfALargeBlock() {
        for (int spans = 1; spans <= 4; spans++) {
            MeshedSpans x = Scenes.takeSpans(new MeshedSpans(1), 1);
            x.malloc(16 * spans);
            x.free(0);
            int behind = 16 + 16 * spans;
            CHECK.due("store(15, 1)", x.store(15, 1), false);
            CHECK.due("store(16, 2)", x.store(16, 2), true);
            CHECK.due("store(last, 3)", x.store(behind - 1, 3), true);
            CHECK.due("store(behind, 4)", x.store(behind, 4), false);
            CHECK.due("load(15)", x.load(15), WILD_ACCESS);
            CHECK.due("load(16)", x.load(16), 2);
            CHECK.due("load(last)", x.load(behind - 1), 3);
            CHECK.due("load(behind)", x.load(behind), WILD_ACCESS);
        }
    }

    private static void firstAndLastAddress() {
        MeshedSpans x = Scenes.crowded(16);
        x.malloc(32);
        for (int a : new int[] {0, 383}) {
            CHECK.due("store(" + a + ", 9)", x.store(a, a + 9), true);
            CHECK.due("load(" + a + ")", x.load(a), a + 9);
        }
        CHECK.due("load(-1)", x.load(-1), WILD_ACCESS);
        CHECK.due("load(384)", x.load(384), WILD_ACCESS);
    }

    private static void afterFree() {
        Supplier<MeshedSpans> scene = () -> {
            MeshedSpans x = Scenes.layOut(3);
            x.store(8, 6);
            x.free(8);
            return x;
        };
        dueWild("after free", scene, 8, 15);
        MeshedSpans x = scene.get();
        CHECK.due("malloc(8)", x.malloc(8), 8);
        CHECK.due("load(8) of the new block", x.load(8), 0);
    }

    private static void afterRelease() {
        dueWild("after the release", () -> Scenes.layOut(2, 0), 0, 15);
    }

    private static void afterFreeOfALargeBlock() {
        Supplier<MeshedSpans> scene = () -> {
            MeshedSpans x = twoLarge();
            x.free(16);
            return x;
        };
        dueWild("after free of a large block", scene, 16, 31, 32, 47);
        CHECK.due("load(15)", scene.get().load(15), 16);
    }

    /** Miniheap 0 has cell 0 and miniheap 1 has cells 1 and 2, meshed; words are the address + 1. */
    private static MeshedSpans meshed() {
        MeshedSpans x = Scenes.layOut(2, 1, 6);
        for (int a = 0; a < 32; a++) {
            x.store(a, a + 1);
        }
        x.mesh(2, 1);
        return x;
    }

    /** The word behind the other span belongs to a live block, whose addresses are others. */
    private static void throughTheOtherSpan() {
        dueWild("through the other span", AccessEdgeTest::meshed, 16, 19, 4, 8, 11);
        MeshedSpans x = meshed();
        for (int a : new int[] {0, 3, 20, 24, 27}) {
            CHECK.due("load(" + a + ") through its own", x.load(a), a + 1);
            CHECK.due("store(" + a + ", ..) through its own", x.store(a, -a), true);
            CHECK.due("load(" + a + ") then", x.load(a), -a);
        }
    }

    private static void aCellFreeInBothSpans() {
        dueWild("a cell free in both spans", AccessEdgeTest::meshed, 12, 15, 28, 31);
    }

    private static void theGreatestAndTheLeastInt() {
        MeshedSpans x = Scenes.layOut(0);
        int[] words = {Integer.MAX_VALUE, Integer.MIN_VALUE, -1, 0, 1, 0x8000, 0xFFFF, 0x10000, 255, 256, -2};
        for (int i = 0; i < words.length; i++) {
            CHECK.due("store(" + i + ", " + words[i] + ")", x.store(i, words[i]), true);
        }
        for (int i = 0; i < words.length; i++) {
            CHECK.due("load(" + i + ")", x.load(i), words[i]);
        }
    }

    /** "no int is so great". */
    private static void wildAccessIsNoInt() {
        CHECK.due("WILD_ACCESS", WILD_ACCESS, 1L << 32);
        CHECK.due("load(-1)", new MeshedSpans(1).load(-1), 1L << 32);
    }

    private static void loadChangesNothing() {
        for (int a : new int[] {0, 15, 16, 47}) {
            Untouched.due(CHECK, "load(" + a + ") of a live block", AccessEdgeTest::twoLarge, x -> x.load(a));
        }
        for (int a : new int[] {0, 20}) {
            Untouched.due(CHECK, "load(" + a + ") after meshing", AccessEdgeTest::meshed, x -> x.load(a));
        }
    }
}
