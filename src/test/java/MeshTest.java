/** Promises 7 and 8: mesh and probes. */
public final class MeshTest {
    private static final int NONE = MeshedSpans.NONE;
    private static final Check CHECK = new Check("MeshTest");

    public static void main(String[] args) {
        wrongArguments();
        nothingToMesh();
        theOneWithMoreKeeps();
        leftKeepsOfEquals();
        wordsAreCopied();
        overlapIsNoMesh();
        attachedAndFullStayOut();
        theOddOneStaysOut();
        probesGoRound();
        tIsABound();
        theSecondRoundGoesUp();
        meshedOnesAreProbedNoMore();
        otherClassesStay();
        meshedMiniheapsMeshAgain();
        probesOfTheLatest();
        CHECK.done();
    }

    private static MeshedSpans layOut(int... masks) {
        return Scenes.layOut(2, masks);
    }

    private static void wrongArguments() {
        MeshedSpans x = layOut(1, 2);
        x.seed(3);
        int[][] wrong = {{-1, 1}, {4, 1}, {2, 0}, {2, 17}, {2, -1}, {Integer.MIN_VALUE, 1}, {Integer.MAX_VALUE, 1},
            {2, Integer.MIN_VALUE}, {2, Integer.MAX_VALUE}, {4, 17}};
        for (int[] pair : wrong) {
            CHECK.due("mesh(" + pair[0] + ", " + pair[1] + ")", x.mesh(pair[0], pair[1]), NONE);
        }
        CHECK.due("heaps(2)", x.heaps(2), 3);
        CHECK.due("probes()", x.probes(), 0);
        CHECK.due("malloc(8): nothing was drawn", x.malloc(8), 48 + 8 * new Lot(3).shuffled(0, 1)[1]);
        CHECK.due("mesh(2, 16)", x.mesh(2, 16), 1);
    }

    private static void nothingToMesh() {
        MeshedSpans x = new MeshedSpans(8);
        for (int c = 0; c < 4; c++) {
            CHECK.due("mesh(" + c + ", 1)", x.mesh(c, 1), 0);
            CHECK.due("mesh(" + c + ", 16)", x.mesh(c, 16), 0);
        }
        CHECK.due("probes()", x.probes(), 0);
        x = layOut(5);
        x.seed(8);
        CHECK.due("mesh(2, 16) of one", x.mesh(2, 16), 0);
        CHECK.due("probes()", x.probes(), 0);
        CHECK.due("malloc(1): nothing was drawn", x.malloc(1), 32 + new Lot(8).shuffled(Lot.upTo(16))[15]);
    }

    private static void theOneWithMoreKeeps() {
        for (int seed = 0; seed < 10; seed++) {
            for (int more = 0; more < 2; more++) {
                MeshedSpans x = more == 0 ? layOut(6, 8) : layOut(8, 6);
                x.seed(seed);
                CHECK.due("mesh(2, 1)", x.mesh(2, 1), 1);
                CHECK.due("probes()", x.probes(), 1);
                CHECK.due("mapped(0)", x.mapped(0), more);
                CHECK.due("mapped(1)", x.mapped(1), more);
                CHECK.due("count(kept)", x.count(more), 2);
                CHECK.due("count(other)", x.count(1 - more), 0);
                CHECK.due("freeSpans()", x.freeSpans(), 10);
                CHECK.due("heaps(2)", x.heaps(2), 2);
                CHECK.due("heapOf", x.heapOf(more == 0 ? 4 : 20), more);
                CHECK.due("heapOf", x.heapOf(more == 0 ? 28 : 12), more);
                CHECK.due("blocks()", x.blocks(), 7);
                CHECK.due("malloc(4): cell 0 is the free one", x.malloc(4), 16 * more);
            }
        }
    }

    private static void leftKeepsOfEquals() {
        int[] kept = new int[2];
        for (int seed = 0; seed < 20; seed++) {
            MeshedSpans x = layOut(9, 6);
            x.seed(seed);
            int left = new Lot(seed).shuffled(0, 1)[0];
            CHECK.due("mesh(2, 16)", x.mesh(2, 16), 1);
            CHECK.due("seed " + seed + ": mapped(0)", x.mapped(0), left);
            CHECK.due("seed " + seed + ": mapped(1)", x.mapped(1), left);
            CHECK.due("seed " + seed + ": heapOf(0)", x.heapOf(0), left);
            kept[left]++;
        }
        CHECK.due("both were LEFT at times", kept[0] > 0 && kept[1] > 0, true);
    }

    private static void wordsAreCopied() {
        MeshedSpans x = layOut(6, 8);
        for (int a = 0; a < 32; a++) {
            x.store(a, 300 + a);
        }
        x.mesh(2, 1);
        for (int a = 0; a < 32; a++) {
            boolean in = a >= 4 && a < 12 || a >= 28;
            CHECK.due("load(" + a + ")", x.load(a), in ? 300 + a : MeshedSpans.WILD_ACCESS);
        }
        CHECK.due("the span that is free now is given out", x.malloc(16), 48);
        CHECK.due("mapped(3)", x.mapped(3), 1);
        x.store(48 + 12, 5);
        CHECK.due("load(28) is apart from it", x.load(28), 328);
    }

    private static void overlapIsNoMesh() {
        MeshedSpans x = layOut(3, 6);
        x.seed(2);
        CHECK.due("mesh(2, 16)", x.mesh(2, 16), 0);
        CHECK.due("probes()", x.probes(), 1);
        CHECK.due("heaps(2)", x.heaps(2), 3);
        CHECK.due("mapped(0)", x.mapped(0), 0);
        CHECK.due("mapped(1)", x.mapped(1), 1);
        Lot lot = new Lot(2);
        lot.shuffled(0, 1);
        CHECK.due("malloc(8): the shuffle drew once", x.malloc(8), 48 + 8 * lot.shuffled(0, 1)[1]);
    }

    private static void attachedAndFullStayOut() {
        MeshedSpans x = layOut(1, 15);
        x.free(32);
        x.free(36);
        CHECK.due("attached(2)", x.attached(2), 2);
        CHECK.due("mesh(2, 16)", x.mesh(2, 16), 0);
        CHECK.due("probes()", x.probes(), 0);
        x = layOut(1);
        x.free(16);
        CHECK.due("mesh(2, 16) beside the attached one", x.mesh(2, 16), 0);
        CHECK.due("probes()", x.probes(), 0);
    }

    private static void theOddOneStaysOut() {
        for (int seed = 0; seed < 10; seed++) {
            MeshedSpans x = layOut(1, 2, 4);
            x.seed(seed);
            int[] row = new Lot(seed).shuffled(0, 1, 2);
            CHECK.due("mesh(2, 16)", x.mesh(2, 16), 1);
            CHECK.due("probes()", x.probes(), 1);
            CHECK.due("mapped(LEFT)", x.mapped(row[0]), row[0]);
            CHECK.due("mapped(RIGHT)", x.mapped(row[1]), row[0]);
            CHECK.due("mapped(the odd one)", x.mapped(row[2]), row[2]);
        }
    }

    /** No two of them mesh, so each of the m / 2 rounds probes all m / 2 places. */
    private static void probesGoRound() {
        int[] masks = {1, 3, 5, 7, 9, 1, 3, 5, 7, 9};
        int[] due = {0, 5, 10, 15, 20, 25, 25};
        for (int t = 1; t < due.length; t++) {
            MeshedSpans x = layOut(masks);
            CHECK.due("mesh(2, " + t + ")", x.mesh(2, t), 0);
            CHECK.due("probes() after t = " + t, x.probes(), due[t]);
        }
        MeshedSpans x = layOut(masks);
        CHECK.due("mesh(2, 16)", x.mesh(2, 16), 0);
        CHECK.due("probes() after t = 16", x.probes(), 25);
    }

    /** Of four, LEFT a, b and RIGHT c, d: round 0 probes a-c and b-d, round 1 probes a-d and b-c. */
    private static void tIsABound() {
        for (int seed = 0; seed < 24; seed++) {
            int[] row = new Lot(seed).shuffled(0, 1, 2, 3);
            int[] masks = new int[4];
            masks[row[0]] = 3;
            masks[row[1]] = 4;
            masks[row[2]] = 1;
            masks[row[3]] = 12;
            MeshedSpans x = layOut(masks);
            x.seed(seed);
            CHECK.due("seed " + seed + ": mesh(2, 1)", x.mesh(2, 1), 0);
            CHECK.due("seed " + seed + ": probes()", x.probes(), 2);
            x.seed(seed);
            CHECK.due("seed " + seed + ": mesh(2, 2)", x.mesh(2, 2), 2);
            CHECK.due("seed " + seed + ": probes()", x.probes(), 4);
            CHECK.due("a and d: LEFT keeps", x.mapped(row[3]), row[0]);
            CHECK.due("a and d: LEFT keeps", x.mapped(row[0]), row[0]);
            CHECK.due("b and c: LEFT keeps", x.mapped(row[2]), row[1]);
            CHECK.due("freeSpans()", x.freeSpans(), 12 - 3);
        }
    }

    /** Of six, only place 0 of LEFT and place 1 of RIGHT can mesh, which round 1 probes. */
    private static void theSecondRoundGoesUp() {
        for (int seed = 0; seed < 10; seed++) {
            int[] row = new Lot(seed).shuffled(Lot.upTo(6));
            int[] byPlace = {1, 3, 3, 3, 2, 3};
            int[] masks = new int[6];
            for (int place = 0; place < 6; place++) {
                masks[row[place]] = byPlace[place];
            }
            MeshedSpans x = layOut(masks);
            x.seed(seed);
            CHECK.due("seed " + seed + ": mesh(2, 2)", x.mesh(2, 2), 1);
            CHECK.due("seed " + seed + ": probes()", x.probes(), 6);
            CHECK.due("seed " + seed + ": LEFT keeps", x.mapped(row[4]), row[0]);
        }
    }

    private static void meshedOnesAreProbedNoMore() {
        for (int seed = 0; seed < 24; seed++) {
            int[] row = new Lot(seed).shuffled(0, 1, 2, 3);
            int[] masks = new int[4];
            masks[row[0]] = 1;
            masks[row[1]] = 4;
            masks[row[2]] = 2;
            masks[row[3]] = 4;
            MeshedSpans x = layOut(masks);
            x.seed(seed);
            CHECK.due("seed " + seed + ": mesh(2, 16)", x.mesh(2, 16), 1);
            CHECK.due("seed " + seed + ": probes()", x.probes(), 2);
            CHECK.due("heaps(2)", x.heaps(2), 4);
            CHECK.due("mapped", x.mapped(row[2]), row[0]);
            CHECK.due("mapped", x.mapped(row[3]), row[3]);
        }
    }

    private static void otherClassesStay() {
        MeshedSpans x = layOut(1, 2);
        for (int c = 0; c < 4; c++) {
            if (c != 2) {
                CHECK.due("mesh(" + c + ", 16)", x.mesh(c, 16), 0);
                CHECK.due("heaps(2)", x.heaps(2), 3);
            }
        }
        CHECK.due("mesh(2, 16)", x.mesh(2, 16), 1);
    }

    private static void meshedMiniheapsMeshAgain() {
        MeshedSpans x = layOut(1, 2, 4, 8);
        int[] addresses = {0, 20, 40, 60};
        for (int a : addresses) {
            x.store(a, a + 1);
            x.store(a + 3, a + 4);
        }
        CHECK.due("mesh(2, 1)", x.mesh(2, 1), 2);
        CHECK.due("freeSpans()", x.freeSpans(), 9);
        CHECK.due("mesh(2, 1)", x.mesh(2, 1), 1);
        CHECK.due("freeSpans()", x.freeSpans(), 10);
        CHECK.due("mesh(2, 1): it is full", x.mesh(2, 1), 0);
        CHECK.due("count", x.count(x.mapped(0)), 4);
        for (int a : addresses) {
            CHECK.due("load(" + a + ")", x.load(a), a + 1);
            CHECK.due("load(" + (a + 3) + ")", x.load(a + 3), a + 4);
            CHECK.due("mapped", x.mapped(a / 16), x.mapped(0));
            CHECK.due("heapOf", x.heapOf(a), x.mapped(0));
        }
        CHECK.due("heaps(2)", x.heaps(2), 2);
    }

    private static void probesOfTheLatest() {
        MeshedSpans x = layOut(1, 1, 1, 1);
        CHECK.due("probes() before", x.probes(), 0);
        CHECK.due("mesh(2, 2)", x.mesh(2, 2), 0);
        CHECK.due("probes()", x.probes(), 4);
        CHECK.due("probes() again", x.probes(), 4);
        CHECK.due("mesh(2, 0)", x.mesh(2, 0), NONE);
        CHECK.due("mesh(4, 1)", x.mesh(4, 1), NONE);
        CHECK.due("probes() after NONE", x.probes(), 4);
        CHECK.due("mesh(2, 1)", x.mesh(2, 1), 0);
        CHECK.due("probes()", x.probes(), 2);
        CHECK.due("mesh(0, 1)", x.mesh(0, 1), 0);
        CHECK.due("probes() of a class without miniheaps", x.probes(), 0);
    }
}
