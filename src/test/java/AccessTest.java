/** Promises 5 and 6: load and store. */
public final class AccessTest {
    private static final long WILD_ACCESS = MeshedSpans.WILD_ACCESS;
    private static final Check CHECK = new Check("AccessTest");

    public static void main(String[] args) {
        wrongAddresses();
        everyWordOfACell();
        everyWordOfALargeBlock();
        allInts();
        aCellIsWholeEvenIfLessWasAsked();
        afterMeshing();
        CHECK.done();
    }

    private static void wrongAddresses() {
        MeshedSpans x = new MeshedSpans(1);
        x.malloc(16);
        for (int a : new int[] {-1, -16, 16, 383, 384, 385, Integer.MIN_VALUE, Integer.MAX_VALUE}) {
            CHECK.due("load(" + a + ")", x.load(a), WILD_ACCESS);
            CHECK.due("store(" + a + ", 1)", x.store(a, 1), false);
        }
        for (int a = 0; a < 16; a++) {
            CHECK.due("load(" + a + ")", x.load(a), 0);
        }
    }

    private static void everyWordOfACell() {
        for (int c = 0; c < 4; c++) {
            MeshedSpans x = new MeshedSpans(c);
            int words = 1 << c;
            int first = x.malloc(words);
            int second = x.malloc(words);
            for (int a = 0; a < 16; a++) {
                boolean in = a >= first && a < first + words || a >= second && a < second + words;
                CHECK.due("class " + c + ": store(" + a + ", ..)", x.store(a, 70 + a), in);
            }
            for (int a = 0; a < 32; a++) {
                boolean in = a >= first && a < first + words || a >= second && a < second + words;
                CHECK.due("class " + c + ": load(" + a + ")", x.load(a), in ? 70 + a : WILD_ACCESS);
            }
        }
    }

    private static void everyWordOfALargeBlock() {
        MeshedSpans x = new MeshedSpans(1);
        x.malloc(16);
        x.malloc(16);
        x.malloc(16);
        x.free(16);
        CHECK.due("malloc(50)", x.malloc(50), 48);
        for (int i = 0; i < 64; i++) {
            CHECK.due("store(" + (48 + i) + ", ..)", x.store(48 + i, -i), true);
        }
        CHECK.due("store(112, 1)", x.store(112, 1), false);
        for (int i = 0; i < 64; i++) {
            CHECK.due("load(" + (48 + i) + ")", x.load(48 + i), -i);
        }
        CHECK.due("load(16)", x.load(16), WILD_ACCESS);
        CHECK.due("load(32)", x.load(32), 0);
        CHECK.due("load(112)", x.load(112), WILD_ACCESS);
    }

    private static void allInts() {
        MeshedSpans x = new MeshedSpans(1);
        int a = x.malloc(1);
        for (int word : new int[] {1, -1, 0, Integer.MIN_VALUE, Integer.MAX_VALUE, 1 << 16}) {
            CHECK.due("store", x.store(a, word), true);
            CHECK.due("load", x.load(a), word);
        }
    }

    private static void aCellIsWholeEvenIfLessWasAsked() {
        MeshedSpans x = new MeshedSpans(1);
        int a = x.malloc(5);
        CHECK.due("store of the last word", x.store(a + 7, 3), true);
        CHECK.due("load of the last word", x.load(a + 7), 3);
        int b = x.malloc(3);
        CHECK.due("store of the fourth word", x.store(b + 3, 4), true);
        CHECK.due("load of the fourth word", x.load(b + 3), 4);
    }

    /** Both virtual spans lead to one physical one, yet each block is reached by its own alone. */
    private static void afterMeshing() {
        MeshedSpans x = new MeshedSpans(1);
        for (int i = 0; i < 6; i++) {
            x.malloc(8);
        }
        for (int a = 0; a < 32; a++) {
            x.store(a, 1000 + a);
        }
        x.free(0);
        x.free(24);
        CHECK.due("mesh(3, 1)", x.mesh(3, 1), 1);
        CHECK.due("mapped(0) is mapped(1)", x.mapped(0), x.mapped(1));
        for (int a = 0; a < 32; a++) {
            boolean in = a >= 8 && a < 24;
            CHECK.due("load(" + a + ")", x.load(a), in ? 1000 + a : WILD_ACCESS);
            CHECK.due("store(" + a + ", ..)", x.store(a, 2000 + a), in);
        }
        for (int a = 8; a < 24; a++) {
            CHECK.due("load(" + a + ")", x.load(a), 2000 + a);
        }
    }
}
