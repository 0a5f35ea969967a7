import java.util.Arrays;
import java.util.function.Supplier;

/** Promises 7 and 8 and meshing, sentence by sentence: refused calls, m / 2 rounded down, the rounds, who keeps. */
public final class MeshEdgeTest {
    private static final int NONE = MeshedSpans.NONE;
    private static final Check CHECK = new Check("MeshEdgeTest");

    public static void main(String[] args) {
        noSuchClass();
        tBelowOne();
        tAboveSixteen();
        firstAndLastClassAndT();
        probesAreNoneAtFirst();
        probesAfterRefusedCallsAlone();
        probesStayAfterARefusedCall();
        probesOfTheLatestAreNotAdded();
        probesStayWithOtherCalls();
        noMiniheaps();
        oneMiniheapDrawsNothing();
        roundsAndHalves();
        theShuffleDrawsOnceForEachButOne();
        theRowIsByRisingNumbers();
        theMiddleOneOfThreeIsRight();
        theOddOneIsLast();
        theSecondRoundGoesRound();
        theThirdRoundGoesRound();
        fewerRoundsThanHalf();
        meshedOnesAreNoProbes();
        aFullOneIsNotInTheRow();
        oneFreeCellIsEnough();
        theAttachedOneIsNotInTheRow();
        oneSharedCellIsTooMany();
        togetherFull();
        oneMoreUsedCellKeeps();
        leftKeepsWhenEquallyMany();
        onlyUsedCellsAreCopied();
        allVirtualSpansOfTheOther();
        theOtherMiniheapIsNoMore();
        CHECK.done();
    }

    /** "NONE, changing nothing": in a state where a mesh would do something, and one has made probes. */
    private static void dueRefused(int sizeClass, int t) {
        String call = "mesh(" + sizeClass + ", " + t + ")";
        Supplier<MeshedSpans> meshable = () -> Scenes.layOut(2, 1, 2);
        Supplier<MeshedSpans> probed = MeshEdgeTest::onceProbed;
        CHECK.due(call, meshable.get().mesh(sizeClass, t), NONE);
        Untouched.due(CHECK, call, meshable, x -> x.mesh(sizeClass, t));
        CHECK.due(call, probed.get().mesh(sizeClass, t), NONE);
        Untouched.due(CHECK, call + " after a mesh", probed, x -> x.mesh(sizeClass, t));
    }

    /** Two miniheaps that can't be meshed, and one probe that has told so. */
    private static MeshedSpans onceProbed() {
        MeshedSpans x = Scenes.layOut(2, 1, 1);
        x.mesh(2, 1);
        return x;
    }

    /** "when sizeClass is not 0 .. 3". */
    private static void noSuchClass() {
        for (int c : new int[] {-1, -2, 4, 5, 34, Integer.MIN_VALUE, Integer.MAX_VALUE}) {
            dueRefused(c, 1);
            dueRefused(c, 16);
        }
        dueRefused(-1, 0);
        dueRefused(4, 17);
    }

    /** "or t is not 1 .. 16": below. */
    private static void tBelowOne() {
        for (int t : new int[] {0, -1, -16, Integer.MIN_VALUE}) {
            dueRefused(2, t);
            dueRefused(0, t);
        }
    }

    /** "or t is not 1 .. 16": above. */
    private static void tAboveSixteen() {
        for (int t : new int[] {17, 18, 32, 257, Integer.MAX_VALUE}) {
            dueRefused(2, t);
            dueRefused(3, t);
        }
    }

    private static void firstAndLastClassAndT() {
        for (int c = 0; c < 4; c++) {
            for (int t : new int[] {1, 2, 15, 16}) {
                MeshedSpans x = Scenes.layOut(c, 1, 2);
                CHECK.due("mesh(" + c + ", " + t + ")", x.mesh(c, t), 1);
                CHECK.due("probes()", x.probes(), 1);
            }
        }
    }

    /** "0 when there was none". */
    private static void probesAreNoneAtFirst() {
        CHECK.due("probes() of a new object", new MeshedSpans(5).probes(), 0);
        CHECK.due("probes() without a mesh", Scenes.layOut(2, 1, 1).probes(), 0);
    }

    /** "that did not answer NONE; 0 when there was none". */
    private static void probesAfterRefusedCallsAlone() {
        MeshedSpans x = Scenes.layOut(2, 1, 1);
        x.mesh(2, 0);
        x.mesh(2, 17);
        x.mesh(4, 1);
        x.mesh(-1, 1);
        CHECK.due("probes()", x.probes(), 0);
    }

    private static void probesStayAfterARefusedCall() {
        int[][] refused = {{2, 0}, {2, 17}, {-1, 1}, {4, 16}};
        for (int[] pair : refused) {
            MeshedSpans x = onceProbed();
            x.mesh(pair[0], pair[1]);
            CHECK.due("probes() after mesh(" + pair[0] + ", " + pair[1] + ")", x.probes(), 1);
        }
    }

    /** "the latest mesh()". */
    private static void probesOfTheLatestAreNotAdded() {
        MeshedSpans x = Scenes.layOut(2, 1, 1, 1, 1);
        int[] t = {2, 1, 16, 1};
        int[] due = {4, 2, 4, 2};
        for (int i = 0; i < t.length; i++) {
            x.mesh(2, t[i]);
            CHECK.due("probes() after mesh(2, " + t[i] + ")", x.probes(), due[i]);
        }
        x.mesh(3, 16);
        CHECK.due("probes() after a mesh without miniheaps", x.probes(), 0);
    }

    private static void probesStayWithOtherCalls() {
        MeshedSpans x = onceProbed();
        x.seed(4);
        x.malloc(4);
        x.free(0);
        x.store(16, 2);
        x.malloc(0);
        x.free(-1);
        CHECK.due("probes()", x.probes(), 1);
    }

    /** m is 0: no half, no draw, no probe. */
    private static void noMiniheaps() {
        for (int c = 0; c < 4; c++) {
            for (int t : new int[] {1, 16}) {
                MeshedSpans x = new MeshedSpans(6);
                CHECK.due("mesh(" + c + ", " + t + ")", x.mesh(c, t), 0);
                CHECK.due("probes()", x.probes(), 0);
                x = Scenes.layOut(c);
                CHECK.due("mesh(" + c + ", " + t + ") beside the attached one", x.mesh(c, t), 0);
                CHECK.due("probes()", x.probes(), 0);
            }
        }
        Untouched.due(CHECK, "mesh(2, 16) of none", () -> Scenes.layOut(2), x -> x.mesh(2, 16));
    }

    /** m is 1: "i from m - 1 down to 1" makes no draw, m / 2 is 0. */
    private static void oneMiniheapDrawsNothing() {
        for (int t : new int[] {1, 16}) {
            MeshedSpans x = Scenes.layOut(2, 1);
            CHECK.due("mesh(2, " + t + ") of one", x.mesh(2, t), 0);
            CHECK.due("probes()", x.probes(), 0);
            Untouched.due(CHECK, "mesh(2, " + t + ") of one", () -> Scenes.layOut(2, 1), y -> y.mesh(2, t));
        }
    }

    /** "m / 2 rounded down", "i = 0, 1, .. , t - 1 (i is at most m / 2 - 1)": m of them that all share a cell. */
    private static void roundsAndHalves() {
        for (int m = 0; m <= 11; m++) {
            int[] masks = new int[m];
            Arrays.fill(masks, 1);
            int half = m / 2;
            for (int t = 1; t <= 16; t++) {
                MeshedSpans x = Scenes.layOut(2, masks);
                CHECK.due("m = " + m + ": mesh(2, " + t + ")", x.mesh(2, t), 0);
                CHECK.due("m = " + m + ", t = " + t + ": probes()", x.probes(), half * Math.min(t, half));
            }
        }
    }

    /** The shuffle's draws are m - 1, whatever t is; told by two cells put back into the attached one. */
    private static void theShuffleDrawsOnceForEachButOne() {
        for (int m = 0; m <= 11; m++) {
            int[] masks = new int[m];
            Arrays.fill(masks, 1);
            for (int seed = 0; seed < 12; seed++) {
                MeshedSpans x = Scenes.layOut(2, masks);
                x.seed(seed);
                Lot lot = new Lot(seed);
                lot.shuffled(Lot.upTo(m));
                x.mesh(2, 1 + seed);
                int[] vector = {};
                for (int cell = 0; cell < 4; cell++) {
                    x.free(16 * m + 4 * cell);
                    vector = lot.putBack(vector, cell);
                }
                CHECK.dueVector("m = " + m + ", seed " + seed, x, 2, vector);
            }
        }
    }

    /** "by rising numbers": miniheap 4, in span 0, comes behind miniheaps 1 and 2 in spans 1 and 2. */
    private static void theRowIsByRisingNumbers() {
        MeshedSpans scene = Scenes.newestInTheLowestSpan();
        CHECK.due("heapOf(8)", scene.heapOf(8), 4);
        CHECK.due("heapOf(16)", scene.heapOf(16), 1);
        CHECK.due("attached(2)", scene.attached(2), 5);
        for (int seed = 0; seed < 12; seed++) {
            MeshedSpans x = Scenes.newestInTheLowestSpan();
            x.seed(seed);
            int[] spans = new Lot(seed).shuffled(1, 2, 0);
            CHECK.due("mesh(2, 1)", x.mesh(2, 1), 1);
            CHECK.due("seed " + seed + ": mapped(LEFT)", x.mapped(spans[0]), spans[0]);
            CHECK.due("seed " + seed + ": mapped(RIGHT)", x.mapped(spans[1]), spans[0]);
            CHECK.due("seed " + seed + ": mapped(the odd one)", x.mapped(spans[2]), spans[2]);
        }
    }

    private static MeshedSpans byPlaces(int seed, int... maskOfPlace) {
        int[] row = new Lot(seed).shuffled(Lot.upTo(maskOfPlace.length));
        int[] masks = new int[row.length];
        for (int place = 0; place < row.length; place++) {
            masks[row[place]] = maskOfPlace[place];
        }
        MeshedSpans x = Scenes.layOut(2, masks);
        x.seed(seed);
        return x;
    }

    private static void dueMesh(String what, MeshedSpans x, int t, int pairs, int probes) {
        CHECK.due(what + ": mesh(2, " + t + ")", x.mesh(2, t), pairs);
        CHECK.due(what + ": probes() after t = " + t, x.probes(), probes);
    }

    /** m is 3: LEFT is place 0, "the following m / 2" is place 1, and place 2 is neither. */
    private static void theMiddleOneOfThreeIsRight() {
        for (int seed = 0; seed < 12; seed++) {
            dueMesh("places 0 and 1", byPlaces(seed, 1, 2, 3), 16, 1, 1);
            dueMesh("places 0 and 2", byPlaces(seed, 1, 3, 2), 16, 0, 1);
            dueMesh("places 1 and 2", byPlaces(seed, 3, 1, 2), 16, 0, 1);
        }
    }

    /** m is 5: place 4 is probed by none, though it could be meshed with all. */
    private static void theOddOneIsLast() {
        for (int seed = 0; seed < 12; seed++) {
            dueMesh("five", byPlaces(seed, 1, 1, 1, 1, 2), 16, 0, 4);
        }
    }

    /** "(j + i) % (m / 2)": of six, only place 2 of LEFT and place 0 of RIGHT can be meshed. */
    private static void theSecondRoundGoesRound() {
        for (int seed = 0; seed < 12; seed++) {
            int[] places = {3, 3, 1, 2, 3, 3};
            dueMesh("2 with 0", byPlaces(seed, places), 1, 0, 3);
            dueMesh("2 with 0", byPlaces(seed, places), 2, 1, 6);
            dueMesh("2 with 0", byPlaces(seed, places), 3, 1, 7);
            dueMesh("2 with 0", byPlaces(seed, places), 16, 1, 7);
        }
    }

    /** Of six, only place 1 of LEFT and place 0 of RIGHT can be meshed: (1 + 2) % 3. */
    private static void theThirdRoundGoesRound() {
        for (int seed = 0; seed < 12; seed++) {
            int[] places = {3, 1, 3, 2, 3, 3};
            dueMesh("1 with 0", byPlaces(seed, places), 2, 0, 6);
            dueMesh("1 with 0", byPlaces(seed, places), 3, 1, 9);
        }
    }

    /** t - 1 is the last i: the pair of the next round is not found. */
    private static void fewerRoundsThanHalf() {
        for (int seed = 0; seed < 12; seed++) {
            int[] places = {1, 3, 3, 3, 3, 3, 3, 3, 3, 2};
            for (int t = 1; t <= 4; t++) {
                dueMesh("0 with 4", byPlaces(seed, places), t, 0, 5 * t);
            }
            dueMesh("0 with 4", byPlaces(seed, places), 5, 1, 25);
        }
    }

    /** "if both .. are not MESHED yet in this call, this is a PROBE". */
    private static void meshedOnesAreNoProbes() {
        for (int seed = 0; seed < 12; seed++) {
            dueMesh("all in round 0", byPlaces(seed, 1, 1, 1, 2, 2, 2), 16, 3, 3);
            dueMesh("the first in round 0", byPlaces(seed, 1, 3, 3, 2, 3, 3), 16, 1, 3 + 1 + 1);
            dueMesh("kept with room for a third", byPlaces(seed, 1, 4, 2, 4), 16, 1, 2);
        }
        MeshedSpans x = Scenes.layOut(2, 1, 2, 4);
        dueMesh("three", x, 16, 1, 1);
        dueMesh("in a later call it is meshed again", x, 16, 1, 1);
        dueMesh("one is left", x, 16, 0, 0);
    }

    /** "and have a used cell and a free one". */
    private static void aFullOneIsNotInTheRow() {
        for (int c = 0; c < 4; c++) {
            MeshedSpans x = Scenes.layOut(c, 1, (1 << (16 >> c)) - 1);
            CHECK.due("mesh(" + c + ", 16) of one and a full one", x.mesh(c, 16), 0);
            CHECK.due("probes()", x.probes(), 0);
        }
        MeshedSpans x = Scenes.layOut(2, 15, 1, 15, 2, 15);
        CHECK.due("mesh(2, 1) between full ones", x.mesh(2, 1), 1);
    }

    private static void oneFreeCellIsEnough() {
        for (int c = 0; c < 4; c++) {
            int all = (1 << (16 >> c)) - 1;
            MeshedSpans x = Scenes.layOut(c, all - 1, 1);
            CHECK.due("mesh(" + c + ", 1)", x.mesh(c, 1), 1);
            x = Scenes.layOut(c, all >> 1, all - (all >> 1));
            CHECK.due("mesh(" + c + ", 1)", x.mesh(c, 1), 1);
        }
    }

    /** "that are not attached". */
    private static void theAttachedOneIsNotInTheRow() {
        for (int c = 0; c < 4; c++) {
            MeshedSpans x = Scenes.layOut(c, 1);
            x.free(16);
            CHECK.due("mesh(" + c + ", 16)", x.mesh(c, 16), 0);
            CHECK.due("probes()", x.probes(), 0);
            CHECK.due("heaps(" + c + ")", x.heaps(c), 2);
        }
    }

    /** "if no cell is used in both". */
    private static void oneSharedCellIsTooMany() {
        int[][] masks = {{0x8000, 0x8001}, {0x80, 0x81}, {0x3, 0x6}, {0x1, 0x1}};
        for (int c = 0; c < 4; c++) {
            MeshedSpans x = Scenes.layOut(c, masks[c]);
            CHECK.due("mesh(" + c + ", 16)", x.mesh(c, 16), 0);
            CHECK.due("probes()", x.probes(), 1);
            CHECK.due("heaps(" + c + ")", x.heaps(c), 3);
            CHECK.due("freeSpans()", x.freeSpans(), 9);
            CHECK.due("mapped(0)", x.mapped(0), 0);
            CHECK.due("mapped(1)", x.mapped(1), 1);
        }
    }

    /** Meshed into a full one: it is in no later row, and has no cell to give. */
    private static void togetherFull() {
        for (int c = 0; c < 4; c++) {
            int all = (1 << (16 >> c)) - 1;
            MeshedSpans x = Scenes.layOut(c, 1, all - 1);
            CHECK.due("mesh(" + c + ", 1)", x.mesh(c, 1), 1);
            CHECK.due("mesh(" + c + ", 1) again", x.mesh(c, 1), 0);
            CHECK.due("probes()", x.probes(), 0);
            CHECK.due("malloc in a new miniheap", x.malloc(1 << c) / 16, 3);
            CHECK.due("attached(" + c + ")", x.attached(c), 3);
        }
    }

    /** "the one with more used cells KEEPS its physical span". */
    private static void oneMoreUsedCellKeeps() {
        for (int seed = 0; seed < 12; seed++) {
            for (int kept = 0; kept < 2; kept++) {
                MeshedSpans x = kept == 0 ? Scenes.layOut(1, 0x0F, 0x70) : Scenes.layOut(1, 0x70, 0x0F);
                x.seed(seed);
                CHECK.due("mesh(1, 1)", x.mesh(1, 1), 1);
                CHECK.due("seed " + seed + ": mapped(0)", x.mapped(0), kept);
                CHECK.due("seed " + seed + ": mapped(1)", x.mapped(1), kept);
                CHECK.due("seed " + seed + ": the number kept", x.heapOf(16 * kept), kept);
                CHECK.due("seed " + seed + ": count(other)", x.count(1 - kept), 0);
            }
        }
    }

    /** "(the LEFT one if equally many)". */
    private static void leftKeepsWhenEquallyMany() {
        for (int c = 0; c < 4; c++) {
            for (int seed = 0; seed < 12; seed++) {
                MeshedSpans x = Scenes.layOut(c, 1, 2);
                x.seed(seed);
                int left = new Lot(seed).shuffled(0, 1)[0];
                CHECK.due("mesh(" + c + ", 1)", x.mesh(c, 1), 1);
                CHECK.due("class " + c + ", seed " + seed + ": mapped(0)", x.mapped(0), left);
                CHECK.due("class " + c + ", seed " + seed + ": mapped(1)", x.mapped(1), left);
            }
        }
    }

    /** "the words of the other one's used cells are copied": old words in its free cells are not. */
    private static void onlyUsedCellsAreCopied() {
        for (int seed = 0; seed < 6; seed++) {
            MeshedSpans x = new MeshedSpans(2);
            for (int i = 0; i < 12; i++) {
                x.malloc(4);
            }
            for (int a = 0; a < 32; a++) {
                x.store(a, 500 + a);
            }
            for (int a : new int[] {4, 12, 16, 24}) {
                x.free(a);
            }
            x.seed(seed);
            CHECK.due("mesh(2, 1)", x.mesh(2, 1), 1);
            for (int cell = 0; cell < 4; cell++) {
                int first = 4 * cell + (cell % 2 == 0 ? 0 : 16);
                for (int a = first; a < first + 4; a++) {
                    CHECK.due("load(" + a + ")", x.load(a), 500 + a);
                }
            }
        }
    }

    /** "all virtual spans of the other one are mapped to it": the other one was meshed before. */
    private static void allVirtualSpansOfTheOther() {
        for (int seed = 0; seed < 6; seed++) {
            MeshedSpans x = Scenes.layOut(2, 1, 2);
            x.seed(seed);
            x.mesh(2, 1);
            int home = x.mapped(0);
            CHECK.due("malloc(4)", x.malloc(4) / 16, home);
            CHECK.due("malloc(4)", x.malloc(4) / 16, home);
            CHECK.due("malloc(4) in a new miniheap", x.malloc(4) / 16, 3);
            x.store(20, 61);
            x.store(23, 62);
            x.store(32, 63);
            for (int a : new int[] {0, 16 * home + 8, 16 * home + 12, 36, 44}) {
                CHECK.due("free(" + a + ")", x.free(a), true);
            }
            CHECK.due("mesh(2, 1)", x.mesh(2, 1), 1);
            for (int v = 0; v < 3; v++) {
                CHECK.due("mapped(" + v + ")", x.mapped(v), 2);
            }
            CHECK.due("count(2)", x.count(2), 3);
            CHECK.due("count(home)", x.count(home), 0);
            CHECK.due("heapOf(20)", x.heapOf(20), 2);
            CHECK.due("load(20)", x.load(20), 61);
            CHECK.due("load(23)", x.load(23), 62);
            CHECK.due("load(32)", x.load(32), 63);
        }
    }

    /** "the other one's physical span is free, and the miniheap is no more". */
    private static void theOtherMiniheapIsNoMore() {
        MeshedSpans x = Scenes.layOut(2, 7, 8);
        CHECK.due("mesh(2, 1)", x.mesh(2, 1), 1);
        CHECK.due("heaps(2)", x.heaps(2), 2);
        CHECK.due("freeSpans()", x.freeSpans(), 10);
        CHECK.due("count(1)", x.count(1), 0);
        CHECK.due("malloc(9) takes its physical span", x.malloc(9), 48);
        CHECK.due("mapped(3)", x.mapped(3), 1);
        CHECK.due("malloc(8)", x.malloc(8) / 16, 4);
        CHECK.due("attached(3): its number is not used again", x.attached(3), 3);
    }
}
