/** States that several tests begin with. */
final class Scenes {
    private Scenes() {
    }

    /**
     * Miniheaps of a class, one for each mask of cells that stay used, and a full attached one behind
     * them. Bit k of a mask is cell k. Miniheap h is made with virtual and physical span h.
     */
    static MeshedSpans layOut(int sizeClass, int... masks) {
        MeshedSpans x = new MeshedSpans(17);
        int words = 1 << sizeClass;
        int cells = 16 / words;
        for (int i = 0; i < cells * (masks.length + 1); i++) {
            x.malloc(words);
        }
        for (int h = 0; h < masks.length; h++) {
            for (int cell = 0; cell < cells; cell++) {
                if ((masks[h] >> cell & 1) == 0) {
                    x.free(16 * h + words * cell);
                }
            }
        }
        return x;
    }

    /**
     * Virtual spans 0 .. 21 mapped to 7 physical ones, in 191 calls: at 0 a block of so many words; from
     * 1 on five groups of four spans of class 2, each group meshed into one full miniheap whose blocks
     * are cell i of the group's span i; at 21 the attached miniheap of class 2, without blocks.
     */
    static MeshedSpans crowded(int wordsOfTheFirst) {
        MeshedSpans x = new MeshedSpans(1);
        x.malloc(wordsOfTheFirst);
        for (int first = 1; first < 21; first += 4) {
            for (int i = 0; i < 20; i++) {
                x.malloc(4);
            }
            for (int cell = 0; cell < 16; cell++) {
                if (cell / 4 != cell % 4) {
                    x.free(16 * first + 4 * cell);
                }
            }
            x.mesh(2, 16);
            x.mesh(2, 16);
            for (int cell = 0; cell < 4; cell++) {
                x.free(16 * (first + 4) + 4 * cell);
            }
        }
        return x;
    }

    /**
     * Miniheaps 1, 2 and 4 of class 2 with one block each, cells 0, 1 and 2, in the spans 1, 2 and 0; 3
     * and the attached 5 are full.
     */
    static MeshedSpans newestInTheLowestSpan() {
        MeshedSpans x = layOut(2, 0, 15, 15);
        for (int i = 0; i < 8; i++) {
            x.malloc(4);
        }
        for (int a : new int[] {20, 24, 28, 32, 40, 44, 0, 4, 12}) {
            x.free(a);
        }
        return x;
    }

    /** Frees the four blocks of one of the groups, so that four neighbouring virtual spans are left. */
    static void freeGroup(MeshedSpans x, int first) {
        for (int i = 0; i < 4; i++) {
            x.free(16 * (first + i) + 4 * i);
        }
    }

    /** Takes so many physical spans by large blocks of one span each. */
    static MeshedSpans takeSpans(MeshedSpans x, int spans) {
        for (int i = 0; i < spans; i++) {
            x.malloc(16);
        }
        return x;
    }
}
