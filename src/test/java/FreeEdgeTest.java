import java.util.function.Supplier;

/** Promise 4 and releasing, sentence by sentence: what is not the address of a live block, and the last block. */
public final class FreeEdgeTest {
    private static final int NONE = MeshedSpans.NONE;
    private static final Check CHECK = new Check("FreeEdgeTest");

    public static void main(String[] args) {
        noAddressAtAll();
        nothingMapped();
        aFreeCell();
        insideACell();
        insideALargeBlock();
        freedBeforeAndAttached();
        freedBeforeAndNotAttached();
        freedBeforeAndReleased();
        freedBeforeAndLarge();
        throughTheOtherSpan();
        firstAndLastAddress();
        largeBlockOfEachLength();
        largeBlockBetweenOthers();
        lastBlockButOneIsNotReleased();
        lastBlockIsReleased();
        lastBlockOfTheAttachedIsNotReleased();
        everySpanOfAMeshedMiniheapIsReleased();
        aSpanWithoutBlocksOfAMeshedMiniheapStays();
        CHECK.done();
    }

    /** "False, changing nothing, when it is not the address of a live block." */
    private static void dueRefused(String where, Supplier<MeshedSpans> scene, int... addresses) {
        for (int a : addresses) {
            CHECK.due(where + ": free(" + a + ")", scene.get().free(a), false);
            Untouched.due(CHECK, where + ": free(" + a + ")", scene, x -> x.free(a));
        }
    }

    /** A cell of 8 words, the large blocks 16 .. 31 and 32 .. 95, and nothing behind. */
    private static MeshedSpans cellAndLarge() {
        MeshedSpans x = new MeshedSpans(1);
        x.malloc(8);
        x.malloc(16);
        x.malloc(64);
        return x;
    }

    private static void noAddressAtAll() {
        dueRefused("below 0", FreeEdgeTest::cellAndLarge, -1, -8, -16, -384, Integer.MIN_VALUE);
        dueRefused("above 383", FreeEdgeTest::cellAndLarge, 384, 385, 400, 1 << 16, Integer.MAX_VALUE);
        dueRefused("new", () -> new MeshedSpans(1), -1, 0, 383, 384);
    }

    private static void nothingMapped() {
        dueRefused("a span that is not mapped", FreeEdgeTest::cellAndLarge, 96, 97, 368, 383);
    }

    private static void aFreeCell() {
        int used = cellAndLarge().malloc(8) == 0 ? 8 : 0;
        CHECK.due("the first cell", cellAndLarge().size(used), 8);
        dueRefused("the other cell", FreeEdgeTest::cellAndLarge, 8 - used);
    }

    private static void insideACell() {
        dueRefused("inside a cell of class 1", () -> Scenes.layOut(1), 1, 3, 15);
        dueRefused("inside a cell of class 2", () -> Scenes.layOut(2), 1, 2, 3, 5, 13, 14, 15);
        dueRefused("inside a cell of class 3", () -> Scenes.layOut(3), 1, 2, 4, 7, 9, 12, 15);
    }

    private static void insideALargeBlock() {
        dueRefused("inside a large block", FreeEdgeTest::cellAndLarge, 17, 24, 31, 33, 47, 48, 64, 80, 95);
    }

    /** A cell that is free again is in the vector once. */
    private static void freedBeforeAndAttached() {
        for (int c = 0; c < 4; c++) {
            int sizeClass = c;
            Supplier<MeshedSpans> scene = () -> {
                MeshedSpans x = Scenes.layOut(sizeClass);
                x.free(0);
                return x;
            };
            dueRefused("freed before, class " + c, scene, 0);
            CHECK.dueVector("freed once", scene.get(), c, 0);
        }
    }

    private static void freedBeforeAndNotAttached() {
        dueRefused("freed before", () -> Scenes.layOut(2, 14), 0);
    }

    private static void freedBeforeAndReleased() {
        dueRefused("freed with its miniheap", () -> Scenes.layOut(2, 0), 0, 4, 8, 12);
    }

    private static void freedBeforeAndLarge() {
        Supplier<MeshedSpans> scene = () -> {
            MeshedSpans x = cellAndLarge();
            x.free(32);
            return x;
        };
        dueRefused("a large block freed before", scene, 32, 48, 80);
    }

    /** Miniheap 0 has cell 0 and miniheap 1 has cells 1 and 2, meshed in span 1. */
    private static MeshedSpans meshed() {
        MeshedSpans x = Scenes.layOut(2, 1, 6);
        x.mesh(2, 1);
        return x;
    }

    /** A block's address "never changes": the other span's word is the same, but not its address. */
    private static void throughTheOtherSpan() {
        CHECK.due("mapped(0) after meshing", meshed().mapped(0), 1);
        dueRefused("through the other span", FreeEdgeTest::meshed, 16, 4, 8);
        dueRefused("a cell free in both spans", FreeEdgeTest::meshed, 12, 28);
        for (int a : new int[] {0, 20, 24}) {
            CHECK.due("free(" + a + ") through its own", meshed().free(a), true);
        }
    }

    /** Addresses are 0 .. 383. */
    private static void firstAndLastAddress() {
        MeshedSpans x = Scenes.takeSpans(Scenes.crowded(16), 1);
        CHECK.due("free(0)", x.free(0), true);
        CHECK.due("free(0) again", x.free(0), false);
        x.malloc(16);
        for (int i = 0; i < 16; i++) {
            CHECK.due("malloc(1) in the last span", x.malloc(1) / 16, 23);
        }
        CHECK.due("free(383)", x.free(383), true);
        CHECK.due("free(383) again", x.free(383), false);
        CHECK.dueVector("cell 15", x, 0, 15);
    }

    /** "(A large block's spans are free then, and its virtual spans not mapped.)" */
    private static void largeBlockOfEachLength() {
        for (int spans = 1; spans <= 4; spans++) {
            MeshedSpans x = new MeshedSpans(1);
            x.malloc(16 * spans);
            CHECK.due("free(0) of " + spans, x.free(0), true);
            CHECK.due("freeSpans() after " + spans, x.freeSpans(), 12);
            CHECK.due("blocks() after " + spans, x.blocks(), 0);
            for (int i = 0; i < 4; i++) {
                CHECK.due("mapped(" + i + ") after " + spans, x.mapped(i), NONE);
                CHECK.due("count(" + i + ") after " + spans, x.count(i), 0);
                CHECK.due("size(" + 16 * i + ") after " + spans, x.size(16 * i), MeshedSpans.WILD);
                CHECK.due("load(" + (16 * i + 15) + ") after " + spans, x.load(16 * i + 15), MeshedSpans.WILD_ACCESS);
            }
            CHECK.due("malloc(64) after " + spans, x.malloc(64), 0);
        }
    }

    private static void largeBlockBetweenOthers() {
        for (int spans = 1; spans <= 4; spans++) {
            MeshedSpans x = new MeshedSpans(1);
            x.malloc(9);
            x.malloc(16 * spans);
            int behind = x.malloc(9);
            x.store(15, 1);
            x.store(behind, 2);
            CHECK.due("free(16)", x.free(16), true);
            CHECK.due("load(15)", x.load(15), 1);
            CHECK.due("load(behind)", x.load(behind), 2);
            CHECK.due("mapped(0)", x.mapped(0), 0);
            CHECK.due("mapped(spans)", x.mapped(spans), NONE);
            CHECK.due("mapped(behind)", x.mapped(spans + 1), spans + 1);
            CHECK.due("freeSpans()", x.freeSpans(), 10);
        }
    }

    /** "A miniheap without used cells": one used cell is enough to stay. */
    private static void lastBlockButOneIsNotReleased() {
        for (int c = 0; c < 4; c++) {
            for (int cell = 0; cell < 16 >> c; cell++) {
                MeshedSpans x = Scenes.layOut(c, 1 << cell);
                CHECK.due("heaps(" + c + ") with cell " + cell, x.heaps(c), 2);
                CHECK.due("mapped(0) with cell " + cell, x.mapped(0), 0);
                CHECK.due("freeSpans()", x.freeSpans(), 10);
            }
        }
    }

    /** "is RELEASED at the end of the call that left it so". */
    private static void lastBlockIsReleased() {
        for (int c = 0; c < 4; c++) {
            for (int cell = 0; cell < 16 >> c; cell++) {
                MeshedSpans x = Scenes.layOut(c, 1 << cell);
                CHECK.due("free of the last block, cell " + cell, x.free(cell << c), true);
                CHECK.due("heaps(" + c + ")", x.heaps(c), 1);
                CHECK.due("mapped(0)", x.mapped(0), NONE);
                CHECK.due("count(0)", x.count(0), 0);
                CHECK.due("freeSpans()", x.freeSpans(), 11);
                CHECK.due("attached(" + c + ") stays", x.attached(c), 1);
            }
        }
    }

    /** "that is not attached". */
    private static void lastBlockOfTheAttachedIsNotReleased() {
        for (int c = 0; c < 4; c++) {
            MeshedSpans x = Scenes.layOut(c);
            for (int cell = 0; cell < 16 >> c; cell++) {
                CHECK.due("free of cell " + cell, x.free(cell << c), true);
            }
            CHECK.due("blocks()", x.blocks(), 0);
            CHECK.due("heaps(" + c + ")", x.heaps(c), 1);
            CHECK.due("attached(" + c + ")", x.attached(c), 0);
            CHECK.due("mapped(0)", x.mapped(0), 0);
            CHECK.due("freeSpans()", x.freeSpans(), 11);
            CHECK.due("vector(" + c + ", last)", x.vector(c, (16 >> c) - 1) != NONE, true);
            CHECK.due("vector(" + c + ", behind)", x.vector(c, 16 >> c), NONE);
        }
    }

    /** "its virtual spans are not mapped any more, its physical span is free". */
    private static void everySpanOfAMeshedMiniheapIsReleased() {
        MeshedSpans x = Scenes.crowded(16);
        int physical = x.mapped(5);
        CHECK.due("count before", x.count(physical), 4);
        x.free(16 * 5);
        x.free(16 * 6 + 4);
        x.free(16 * 7 + 8);
        CHECK.due("count with one block", x.count(physical), 4);
        CHECK.due("freeSpans() with one block", x.freeSpans(), 5);
        CHECK.due("free of the last one", x.free(16 * 8 + 12), true);
        for (int v = 5; v < 9; v++) {
            CHECK.due("mapped(" + v + ")", x.mapped(v), NONE);
        }
        CHECK.due("count", x.count(physical), 0);
        CHECK.due("freeSpans()", x.freeSpans(), 6);
        CHECK.due("mapped(4) stays", x.mapped(4) != NONE, true);
        CHECK.due("mapped(9) stays", x.mapped(9) != NONE, true);
    }

    private static void aSpanWithoutBlocksOfAMeshedMiniheapStays() {
        MeshedSpans x = meshed();
        CHECK.due("free(20)", x.free(20), true);
        CHECK.due("free(24)", x.free(24), true);
        CHECK.due("mapped(1)", x.mapped(1), 1);
        CHECK.due("mapped(0)", x.mapped(0), 1);
        CHECK.due("count(1)", x.count(1), 2);
        CHECK.due("heapOf(0)", x.heapOf(0), 1);
        CHECK.due("free(0)", x.free(0), true);
        CHECK.due("mapped(1)", x.mapped(1), NONE);
    }
}
