/** Promise 3: malloc, with attaching and handing out. */
public final class MallocTest {
    private static final int NONE = MeshedSpans.NONE;
    private static final Check CHECK = new Check("MallocTest");

    public static void main(String[] args) {
        wrongWords();
        leastClass();
        largeTakesWholeSpans();
        handsOutFromTheEnd();
        newMiniheapTakesTheLowestSpans();
        fullestIsAttached();
        lowestNumberOfEquals();
        attachedStaysWhileItHasCells();
        wordsAreZero();
        largePhysicalSpansNeedNotBeNeighbours();
        largeNeedsARowOfVirtualSpans();
        noPhysicalSpanChangesNothing();
        noVirtualSpanChangesNothing();
        aMeshedMiniheapHandsOutInItsFirstSpan();
        numbersAreNotUsedAgain();
        CHECK.done();
    }

    private static void wrongWords() {
        MeshedSpans x = new MeshedSpans(1);
        for (int words : new int[] {0, -1, 65, 66, -64, Integer.MIN_VALUE, Integer.MAX_VALUE, Integer.MAX_VALUE - 14}) {
            CHECK.due("malloc(" + words + ")", x.malloc(words), NONE);
        }
        CHECK.due("blocks()", x.blocks(), 0);
        CHECK.due("freeSpans()", x.freeSpans(), 12);
        CHECK.due("malloc(1) draws as a new object's", x.malloc(1), new Lot(1).shuffled(Lot.upTo(16))[15]);
        CHECK.due("attached(0)", x.attached(0), 0);
    }

    private static void leastClass() {
        int[] due = {0, 0, 1, 2, 2, 3, 3, 3, 3};
        for (int words = 1; words <= 8; words++) {
            MeshedSpans x = new MeshedSpans(words);
            int address = x.malloc(words);
            for (int c = 0; c < 4; c++) {
                CHECK.due("malloc(" + words + "): heaps(" + c + ")", x.heaps(c), c == due[words] ? 1 : 0);
            }
            CHECK.due("malloc(" + words + "): size", x.size(address), 1 << due[words]);
        }
    }

    private static void largeTakesWholeSpans() {
        for (int words = 9; words <= 64; words++) {
            MeshedSpans x = new MeshedSpans(words);
            int spans = words <= 16 ? 1 : words <= 32 ? 2 : words <= 48 ? 3 : 4;
            CHECK.due("malloc(" + words + ")", x.malloc(words), 0);
            CHECK.due("malloc(" + words + "): size(0)", x.size(0), 16 * spans);
            CHECK.due("malloc(" + words + "): freeSpans()", x.freeSpans(), 12 - spans);
            for (int v = 0; v < 6; v++) {
                CHECK.due("malloc(" + words + "): mapped(" + v + ")", x.mapped(v), v < spans ? v : NONE);
            }
            for (int c = 0; c < 4; c++) {
                CHECK.due("malloc(" + words + "): heaps(" + c + ")", x.heaps(c), 0);
            }
            CHECK.due("malloc(" + words + ") draws nothing", x.malloc(1), 16 * spans + new Lot(words).shuffled(Lot.upTo(16))[15]);
        }
    }

    private static void handsOutFromTheEnd() {
        for (int c = 0; c < 4; c++) {
            int cells = 16 >> c;
            MeshedSpans x = new MeshedSpans(31 + c);
            Lot lot = new Lot(31 + c);
            for (int heap = 0; heap < 3; heap++) {
                int[] row = lot.shuffled(Lot.upTo(cells));
                for (int k = cells - 1; k >= 0; k--) {
                    CHECK.due("class " + c + ", miniheap " + heap + ": malloc", x.malloc(1 << c), 16 * heap + (row[k] << c));
                    CHECK.due("class " + c + ", miniheap " + heap + ": attached", x.attached(c), heap);
                    CHECK.due("class " + c + ": vector(.., " + k + ")", x.vector(c, k), NONE);
                }
            }
        }
    }

    private static void newMiniheapTakesTheLowestSpans() {
        MeshedSpans x = new MeshedSpans(6);
        x.malloc(16);
        x.malloc(32);
        x.malloc(16);
        x.free(16);
        int a = x.malloc(8);
        CHECK.due("the miniheap lies in virtual span 1", a / 16, 1);
        CHECK.due("mapped(1)", x.mapped(1), 1);
        CHECK.due("malloc(32)", x.malloc(32), 64);
        CHECK.due("mapped(4)", x.mapped(4), 2);
        CHECK.due("mapped(5)", x.mapped(5), 4);
        CHECK.due("the next class lies in virtual span 2", x.malloc(4) / 16, 2);
        CHECK.due("mapped(2)", x.mapped(2), 5);
    }

    /** Three full miniheaps of class 2 and an attached fourth one that is full too. */
    private static MeshedSpans fourFull(int seed) {
        MeshedSpans x = new MeshedSpans(seed);
        for (int i = 0; i < 16; i++) {
            x.malloc(4);
        }
        return x;
    }

    private static void fullestIsAttached() {
        MeshedSpans x = fourFull(8);
        x.free(0);
        x.free(4);
        x.free(8);
        x.free(16);
        x.free(20);
        x.free(32);
        x.free(36);
        x.free(44);
        x.seed(3);
        int[] row = new Lot(3).shuffled(0, 1);
        CHECK.due("malloc(4)", x.malloc(4), 16 + 4 * row[1]);
        CHECK.due("attached(2)", x.attached(2), 1);
        CHECK.dueVector("fullest", x, 2, row[0]);
    }

    private static void lowestNumberOfEquals() {
        MeshedSpans x = fourFull(9);
        x.free(0);
        x.free(4);
        x.free(40);
        x.free(16);
        CHECK.due("malloc(4)", x.malloc(4), 16);
        CHECK.due("attached(2)", x.attached(2), 1);
        CHECK.due("malloc(4)", x.malloc(4), 40);
        CHECK.due("attached(2)", x.attached(2), 2);
        CHECK.due("malloc(4): the fuller ones are gone", x.malloc(4) / 16, 0);
        lowestNumberBehindAHigherSpan();
    }

    /** The numbers decide, not the physical spans: miniheap 3 lies below miniheap 1 here. */
    private static void lowestNumberBehindAHigherSpan() {
        MeshedSpans x = new MeshedSpans(2);
        x.malloc(16);
        for (int i = 0; i < 6; i++) {
            x.malloc(8);
        }
        x.free(0);
        x.malloc(8);
        CHECK.due("attached(3)", x.attached(3), 3);
        CHECK.due("mapped(0)", x.mapped(0), 0);
        x.malloc(8);
        CHECK.due("malloc(8)", x.malloc(8) / 16, 4);
        x.malloc(8);
        x.free(0);
        x.free(32);
        CHECK.due("malloc(8) in miniheap 1", x.malloc(8), 32);
        CHECK.due("attached(3)", x.attached(3), 1);
        CHECK.due("malloc(8) in miniheap 3", x.malloc(8), 0);
    }

    private static void attachedStaysWhileItHasCells() {
        MeshedSpans x = new MeshedSpans(10);
        for (int i = 0; i < 9; i++) {
            x.malloc(4);
        }
        x.free(0);
        CHECK.due("malloc(4) stays in the attached one", x.malloc(4) / 16, 2);
        CHECK.due("attached(2)", x.attached(2), 2);
    }

    private static void wordsAreZero() {
        for (int words : new int[] {1, 2, 4, 8, 16, 64}) {
            MeshedSpans x = new MeshedSpans(words);
            int address = x.malloc(words);
            for (int i = 0; i < words; i++) {
                CHECK.due("load of a new block", x.load(address + i), 0);
                x.store(address + i, -1 - i);
            }
            x.free(address);
            for (int n = 0; n < (words > 8 ? 1 : 16 / words); n++) {
                int again = x.malloc(words);
                for (int i = 0; i < words; i++) {
                    CHECK.due("load of a block of " + words + " made again", x.load(again + i), 0);
                }
            }
        }
        neighboursKeepTheirWords();
    }

    private static void neighboursKeepTheirWords() {
        MeshedSpans x = new MeshedSpans(3);
        for (int i = 0; i < 8; i++) {
            x.malloc(2);
        }
        for (int a = 0; a < 16; a++) {
            x.store(a, 100 + a);
        }
        x.free(6);
        CHECK.due("malloc(2)", x.malloc(2), 6);
        for (int a = 0; a < 16; a++) {
            CHECK.due("load(" + a + ")", x.load(a), a == 6 || a == 7 ? 0 : 100 + a);
        }
    }

    private static void largePhysicalSpansNeedNotBeNeighbours() {
        MeshedSpans x = new MeshedSpans(1);
        for (int i = 0; i < 12; i++) {
            x.malloc(16);
        }
        x.free(16);
        x.free(48);
        x.free(160);
        CHECK.due("malloc(48)", x.malloc(48), 192);
        CHECK.due("mapped(12)", x.mapped(12), 1);
        CHECK.due("mapped(13)", x.mapped(13), 3);
        CHECK.due("mapped(14)", x.mapped(14), 10);
        CHECK.due("malloc(16)", x.malloc(16), NONE);
        x.store(192 + 17, 5);
        x.free(32);
        CHECK.due("malloc(16)", x.malloc(16), 16);
        CHECK.due("mapped(1)", x.mapped(1), 2);
        CHECK.due("load of the middle of the row", x.load(192 + 17), 5);
    }

    private static void largeNeedsARowOfVirtualSpans() {
        MeshedSpans x = new MeshedSpans(1);
        for (int i = 0; i < 12; i++) {
            x.malloc(16);
        }
        for (int v = 0; v < 12; v += 2) {
            x.free(16 * v);
        }
        CHECK.due("malloc(32) goes past the holes", x.malloc(32), 192);
        CHECK.due("malloc(64)", x.malloc(64), 224);
        CHECK.due("freeSpans()", x.freeSpans(), 0);
        x.free(48);
        CHECK.due("malloc(17)", x.malloc(17), NONE);
        x.free(112);
        CHECK.due("malloc(32) in the lowest row", x.malloc(32), 32);
        CHECK.due("mapped(2)", x.mapped(2), 3);
        CHECK.due("mapped(3)", x.mapped(3), 7);
    }

    private static void noPhysicalSpanChangesNothing() {
        MeshedSpans x = new MeshedSpans(11);
        x.malloc(8);
        x.malloc(8);
        for (int i = 0; i < 11; i++) {
            x.malloc(16);
        }
        x.seed(40);
        CHECK.due("malloc(8)", x.malloc(8), NONE);
        CHECK.due("malloc(1)", x.malloc(1), NONE);
        CHECK.due("malloc(9)", x.malloc(9), NONE);
        CHECK.due("attached(3) is still there", x.attached(3), 0);
        CHECK.due("attached(0)", x.attached(0), NONE);
        CHECK.due("heaps(3)", x.heaps(3), 1);
        CHECK.due("blocks()", x.blocks(), 13);
        CHECK.due("freeSpans()", x.freeSpans(), 0);
        x.free(0);
        CHECK.dueVector("put back, for it is attached", x, 3, 0);
        CHECK.due("malloc(8)", x.malloc(8), 0);
        x.free(16);
        int[] row = new Lot(40).shuffled(Lot.upTo(16));
        CHECK.due("malloc(1): nothing was drawn", x.malloc(1), 16 + row[15]);
        CHECK.due("attached(0): no number was used up", x.attached(0), 1);
    }

    private static void noVirtualSpanChangesNothing() {
        MeshedSpans x = Scenes.crowded(1);
        CHECK.due("freeSpans()", x.freeSpans(), 5);
        CHECK.due("malloc(48): only two virtual spans are left", x.malloc(48), NONE);
        CHECK.due("malloc(32)", x.malloc(32), 16 * 22);
        CHECK.due("mapped(23)", x.mapped(23) != NONE, true);
        CHECK.due("store(383, 4)", x.store(383, 4), true);
        CHECK.due("load(383)", x.load(383), 4);
        CHECK.due("freeSpans()", x.freeSpans(), 3);
        for (int i = 0; i < 4; i++) {
            CHECK.due("malloc(4) in the attached one", x.malloc(4) / 16, 21);
        }
        int number = x.attached(2);
        x.seed(6);
        CHECK.due("malloc(4)", x.malloc(4), NONE);
        CHECK.due("malloc(8)", x.malloc(8), NONE);
        CHECK.due("malloc(16)", x.malloc(16), NONE);
        CHECK.due("attached(2) is still there", x.attached(2), number);
        CHECK.due("attached(3)", x.attached(3), NONE);
        CHECK.due("heaps(3)", x.heaps(3), 0);
        CHECK.due("freeSpans()", x.freeSpans(), 3);
        CHECK.due("blocks()", x.blocks(), 1 + 5 * 4 + 1 + 4);
        x.free(16 * 22);
        CHECK.due("malloc(8): nothing was drawn", x.malloc(8), 16 * 22 + 8 * new Lot(6).shuffled(0, 1)[1]);
        CHECK.due("attached(3): no number was used up", x.attached(3), number + 1);
    }

    private static void aMeshedMiniheapHandsOutInItsFirstSpan() {
        MeshedSpans x = new MeshedSpans(1);
        for (int i = 0; i < 12; i++) {
            x.malloc(4);
        }
        x.free(4);
        x.free(8);
        x.free(12);
        x.free(16);
        x.free(28);
        CHECK.due("mesh(2, 1)", x.mesh(2, 1), 1);
        CHECK.due("heapOf(0)", x.heapOf(0), 1);
        x.store(0, 50);
        CHECK.due("malloc(4): the one free cell", x.malloc(4), 28);
        CHECK.due("attached(2)", x.attached(2), 1);
        x.free(0);
        CHECK.due("malloc(4): a cell that lay in span 0", x.malloc(4), 16);
        CHECK.due("load(16)", x.load(16), 0);
        CHECK.due("load(0)", x.load(0), MeshedSpans.WILD_ACCESS);
        CHECK.due("malloc(4)", x.malloc(4) / 16, 3);
    }

    private static void numbersAreNotUsedAgain() {
        MeshedSpans x = new MeshedSpans(1);
        for (int i = 0; i < 5; i++) {
            x.malloc(8);
        }
        x.free(0);
        x.free(8);
        CHECK.due("heaps(3)", x.heaps(3), 2);
        x.malloc(8);
        int a = x.malloc(8);
        CHECK.due("the span is used again", a / 16, 0);
        CHECK.due("the number is not", x.heapOf(a), 3);
    }
}
