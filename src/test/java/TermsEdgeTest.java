import java.math.BigInteger;
import java.util.Arrays;

/** The terms, sentence by sentence: draws as ints, attaching, handing out, an empty vector, a full miniheap. */
public final class TermsEdgeTest {
    private static final int NONE = MeshedSpans.NONE;
    private static final Check CHECK = new Check("TermsEdgeTest");

    public static void main(String[] args) {
        theStateWrapsAsAnInt();
        theDrawTakesTheStateUnsigned();
        drawsBelowThree();
        drawsGoOnFromCallToCall();
        seedBeginsTheRowAnew();
        twelvePhysicalSpans();
        twentyFourVirtualSpans();
        cellsOfEachClass();
        attachingOneFreeCellDrawsNothing();
        attachingTheFreeCellsByRisingNumbers();
        handingOutTheLastOne();
        theLastCellLeavesItAttached();
        anEmptyVectorIsAttachedNoMore();
        oneCellIsNoEmptyVector();
        theFirstCellBackDrawsNothing();
        theSecondCellBackDraws();
        theLastCellBack();
        aFullOneIsNotAttached();
        mostUsedCellsByOne();
        lowestNumberOfSeveral();
        theNumberDecidesAndNotTheSpan();
        noneButFullOnesMakesANewOne();
        theLowestSpansAreTakenApart();
        sixteenWordsZero();
        aNewBlockIsZeroAfterMeshing();
        numbersAreNotUsedAgain();
        anAddressNeverChanges();
        CHECK.done();
    }

    /** The seed with which the next state is this one. */
    private static int seedBefore(int state) {
        BigInteger all = BigInteger.ONE.shiftLeft(32);
        BigInteger back = BigInteger.valueOf(1664525).modInverse(all);
        return BigInteger.valueOf(state).subtract(BigInteger.valueOf(1013904223)).multiply(back).mod(all).intValue();
    }

    /** "x becomes x * 1664525 + 1013904223 (as ints)": the first of 15 draws decides the cell handed out. */
    private static void theStateWrapsAsAnInt() {
        int[] seeds = {0, 1, -1, 2, 1290, 1291, 1 << 30, Integer.MAX_VALUE, Integer.MIN_VALUE};
        for (int seed : seeds) {
            BigInteger x = BigInteger.valueOf(seed).multiply(BigInteger.valueOf(1664525)).add(BigInteger.valueOf(1013904223));
            int due = x.mod(BigInteger.ONE.shiftLeft(32)).shiftRight(16).mod(BigInteger.valueOf(16)).intValue();
            CHECK.due("malloc(1) with seed " + seed, new MeshedSpans(seed).malloc(1), due);
            MeshedSpans other = new MeshedSpans(5);
            other.seed(seed);
            CHECK.due("malloc(1) after seed(" + seed + ")", other.malloc(1), due);
        }
        for (int seed : seeds) {
            MeshedSpans x = new MeshedSpans(seed);
            int[] row = new Lot(seed).shuffled(Lot.upTo(16));
            CHECK.due("malloc(1)", x.malloc(1), row[15]);
            CHECK.dueVector("15 draws from seed " + seed, x, 0, Arrays.copyOf(row, 15));
        }
    }

    /** "(x >>> 16) % n": states from 0x80000000 on are no negative draws. */
    private static void theDrawTakesTheStateUnsigned() {
        int[] states = {0, 0xFFFF, 0x10000, 0x1FFFF, 0x7FFFFFFF, 0x80000000, 0x8000FFFF, 0x80010000, 0xFFFEFFFF, 0xFFFF0000, 0xFFFFFFFF};
        int[] below16 = {0, 0, 1, 1, 15, 0, 0, 1, 14, 15, 15};
        int[] below2 = {0, 0, 1, 1, 1, 0, 0, 1, 0, 1, 1};
        for (int i = 0; i < states.length; i++) {
            int seed = seedBefore(states[i]);
            CHECK.due("state " + states[i] + ": a draw below 16", new MeshedSpans(seed).malloc(1), below16[i]);
            CHECK.due("state " + states[i] + ": a draw below 2", new MeshedSpans(seed).malloc(8), 8 * below2[i]);
        }
    }

    /** n is no power of two: 65535 % 3 is 0, 65534 % 3 is 2, 32767 % 3 is 1. */
    private static void drawsBelowThree() {
        int[] states = {0xFFFF0000, 0xFFFE0000, 0x7FFF0000, 0x80000000, 0, 0x10000, 0x20000, 0x30000};
        int[] due = {0, 2, 1, 2, 0, 1, 2, 0};
        for (int i = 0; i < states.length; i++) {
            MeshedSpans x = Scenes.layOut(2);
            x.seed(seedBefore(0));
            x.free(0);
            x.free(4);
            CHECK.dueVector("two back", x, 2, 1, 0);
            x.seed(seedBefore(states[i]));
            x.free(8);
            int[] vector = {1, 0, 2};
            vector[2] = vector[due[i]];
            vector[due[i]] = 2;
            CHECK.dueVector("state " + states[i], x, 2, vector);
        }
    }

    private static void drawsGoOnFromCallToCall() {
        MeshedSpans x = new MeshedSpans(70);
        Lot lot = new Lot(70);
        for (int c = 0; c < 4; c++) {
            int[] row = lot.shuffled(Lot.upTo(16 >> c));
            CHECK.due("malloc(" + (1 << c) + ")", x.malloc(1 << c), 16 * c + (row[row.length - 1] << c));
            CHECK.dueVector("class " + c, x, c, Arrays.copyOf(row, row.length - 1));
        }
    }

    /** "a row of numbers that starts anew with seed()". */
    private static void seedBeginsTheRowAnew() {
        MeshedSpans x = new MeshedSpans(70);
        for (int c = 0; c < 4; c++) {
            x.seed(70);
            int[] row = new Lot(70).shuffled(Lot.upTo(16 >> c));
            CHECK.due("malloc(" + (1 << c) + ")", x.malloc(1 << c), 16 * c + (row[row.length - 1] << c));
        }
        Untouched.dueView(CHECK, "seed(9)", () -> Scenes.layOut(2, 1, 2), y -> y.seed(9));
        Untouched.due(CHECK, "seed(9) twice", () -> seeded(9), y -> y.seed(9));
    }

    private static MeshedSpans seeded(int seed) {
        MeshedSpans x = Scenes.layOut(2, 1, 2);
        x.seed(seed);
        return x;
    }

    private static void twelvePhysicalSpans() {
        MeshedSpans x = Scenes.takeSpans(new MeshedSpans(1), 11);
        CHECK.due("the 12th", x.malloc(16), 16 * 11);
        CHECK.due("mapped(11)", x.mapped(11), 11);
        CHECK.due("a 13th", x.malloc(16), NONE);
    }

    private static void twentyFourVirtualSpans() {
        MeshedSpans x = Scenes.takeSpans(Scenes.crowded(1), 1);
        CHECK.due("the 24th", x.malloc(16), 16 * 23);
        CHECK.due("mapped(23)", x.mapped(23) != NONE, true);
        CHECK.due("freeSpans()", x.freeSpans(), 3);
        CHECK.due("a 25th", x.malloc(16), NONE);
    }

    /** "16 to a span", 8, 4, 2: so many, then the next miniheap. */
    private static void cellsOfEachClass() {
        int[] cells = {16, 8, 4, 2};
        for (int c = 0; c < 4; c++) {
            MeshedSpans x = new MeshedSpans(c);
            boolean[] seen = new boolean[16];
            for (int i = 0; i < cells[c]; i++) {
                int a = x.malloc(1 << c);
                CHECK.due("class " + c + ": the address is in span 0", a / 16, 0);
                CHECK.due("class " + c + ": a cell begins there", a % (1 << c), 0);
                CHECK.due("class " + c + ": the cell was free", seen[a % 16], false);
                seen[a % 16] = true;
            }
            CHECK.due("class " + c + ": heaps", x.heaps(c), 1);
            CHECK.due("class " + c + ": the next miniheap", x.malloc(1 << c) / 16, 1);
            CHECK.due("class " + c + ": heaps", x.heaps(c), 2);
        }
    }

    /** m is 1: there is no i. */
    private static void attachingOneFreeCellDrawsNothing() {
        for (int c = 0; c < 4; c++) {
            int all = (1 << (16 >> c)) - 1;
            MeshedSpans x = Scenes.layOut(c, all - 2);
            x.seed(31);
            CHECK.due("malloc(" + (1 << c) + ")", x.malloc(1 << c), 1 << c);
            CHECK.due("attached(" + c + ")", x.attached(c), 0);
            CHECK.dueVector("nothing is left", x, c);
            int other = c == 0 ? 1 : 0;
            int[] row = new Lot(31).shuffled(Lot.upTo(16 >> other));
            CHECK.due("malloc of another class: nothing was drawn", x.malloc(1 << other), 32 + (row[row.length - 1] << other));
            CHECK.dueVector("nothing was drawn", x, other, Arrays.copyOf(row, row.length - 1));
        }
    }

    /** "its free cells by rising numbers, m of them; then for i from m - 1 down to 1". */
    private static void attachingTheFreeCellsByRisingNumbers() {
        for (int mask = 1; mask < 15; mask++) {
            int free = 0;
            int[] cells = new int[4];
            for (int cell = 0; cell < 4; cell++) {
                if ((mask >> cell & 1) == 0) {
                    cells[free++] = cell;
                }
            }
            MeshedSpans x = Scenes.layOut(2, mask);
            x.seed(mask);
            int[] row = new Lot(mask).shuffled(Arrays.copyOf(cells, free));
            CHECK.due("mask " + mask + ": malloc(4)", x.malloc(4), 4 * row[free - 1]);
            CHECK.dueVector("mask " + mask, x, 2, Arrays.copyOf(row, free - 1));
        }
    }

    private static void handingOutTheLastOne() {
        MeshedSpans x = new MeshedSpans(12);
        x.malloc(2);
        for (int left = 7; left > 0; left--) {
            int due = x.vector(1, left - 1);
            CHECK.due("malloc(2)", x.malloc(2), 2 * due);
            CHECK.due("it is taken off", x.vector(1, left - 1), NONE);
        }
    }

    private static void theLastCellLeavesItAttached() {
        for (int c = 0; c < 4; c++) {
            MeshedSpans x = Scenes.layOut(c);
            CHECK.due("attached(" + c + ") with an empty vector", x.attached(c), 0);
            CHECK.dueVector("an empty vector", x, c);
            CHECK.due("heaps(" + c + ")", x.heaps(c), 1);
        }
    }

    /** "(that one is attached no more)": a cell of it that becomes free then is in no vector. */
    private static void anEmptyVectorIsAttachedNoMore() {
        for (int c = 0; c < 4; c++) {
            MeshedSpans x = Scenes.layOut(c);
            CHECK.due("malloc(" + (1 << c) + ")", x.malloc(1 << c) / 16, 1);
            CHECK.due("attached(" + c + ")", x.attached(c), 1);
            int left = (16 >> c) - 1;
            x.free(0);
            CHECK.due("vector(" + c + ", " + left + ")", x.vector(c, left), NONE);
        }
    }

    private static void oneCellIsNoEmptyVector() {
        MeshedSpans x = Scenes.layOut(2, 7);
        x.free(16);
        CHECK.due("malloc(4) in the attached one, though the other is as full", x.malloc(4), 16);
        CHECK.due("attached(2)", x.attached(2), 1);
        CHECK.due("malloc(4) in the other one then", x.malloc(4), 12);
        CHECK.due("attached(2)", x.attached(2), 0);
    }

    /** "if the vector has n cells now and n is above 1". */
    private static void theFirstCellBackDrawsNothing() {
        for (int c = 0; c < 4; c++) {
            for (int seed = 0; seed < 6; seed++) {
                MeshedSpans x = Scenes.layOut(c);
                x.seed(seed);
                x.free(1 << c);
                CHECK.dueVector("one back", x, c, 1);
                int other = c == 0 ? 1 : 0;
                int[] row = new Lot(seed).shuffled(Lot.upTo(16 >> other));
                CHECK.due("malloc of another class: nothing was drawn", x.malloc(1 << other), 16 + (row[row.length - 1] << other));
                CHECK.dueVector("nothing was drawn", x, other, Arrays.copyOf(row, row.length - 1));
            }
        }
    }

    /** n is 2: j is 0 or 1, and 1 is the last place itself. */
    private static void theSecondCellBackDraws() {
        int[] states = {0, 0x10000, 0x80000000, 0xFFFF0000};
        for (int i = 0; i < states.length; i++) {
            MeshedSpans x = Scenes.layOut(3);
            x.free(8);
            x.seed(seedBefore(states[i]));
            x.free(0);
            boolean exchanged = i % 2 == 0;
            CHECK.dueVector("state " + states[i], x, 3, exchanged ? 0 : 1, exchanged ? 1 : 0);
        }
    }

    /** n is the number of all cells. */
    private static void theLastCellBack() {
        for (int c = 0; c < 4; c++) {
            int cells = 16 >> c;
            MeshedSpans x = Scenes.layOut(c);
            x.seed(90);
            Lot lot = new Lot(90);
            int[] vector = {};
            for (int cell = cells - 1; cell >= 0; cell--) {
                x.free(cell << c);
                vector = lot.putBack(vector, cell);
            }
            CHECK.dueVector("all cells back", x, c, vector);
            CHECK.due("malloc(" + (1 << c) + ")", x.malloc(1 << c), vector[cells - 1] << c);
        }
    }

    /** "of the miniheaps of the class that are not full": the full ones have the most used cells. */
    private static void aFullOneIsNotAttached() {
        MeshedSpans x = Scenes.layOut(2, 15, 1, 15);
        CHECK.due("malloc(4)", x.malloc(4) / 16, 1);
        CHECK.due("attached(2)", x.attached(2), 1);
    }

    private static void mostUsedCellsByOne() {
        for (int place = 0; place < 4; place++) {
            int[] masks = {3, 3, 3, 3};
            masks[place] = 7;
            MeshedSpans x = Scenes.layOut(2, masks);
            CHECK.due("malloc(4)", x.malloc(4), 16 * place + 12);
            CHECK.due("attached(2)", x.attached(2), place);
        }
    }

    private static void lowestNumberOfSeveral() {
        MeshedSpans x = Scenes.layOut(2, 1, 7, 14, 11);
        CHECK.due("malloc(4)", x.malloc(4), 16 + 12);
        CHECK.due("malloc(4)", x.malloc(4), 32);
        CHECK.due("malloc(4)", x.malloc(4), 48 + 8);
        CHECK.due("malloc(4)", x.malloc(4) / 16, 0);
    }

    /** Miniheap 4 lies in span 0, below miniheap 1, and both have one block. */
    private static void theNumberDecidesAndNotTheSpan() {
        MeshedSpans x = Scenes.newestInTheLowestSpan();
        CHECK.due("malloc(4) in miniheap 1", x.malloc(4) / 16, 1);
        CHECK.due("attached(2)", x.attached(2), 1);
    }

    private static void noneButFullOnesMakesANewOne() {
        MeshedSpans x = Scenes.layOut(2, 15, 15);
        CHECK.due("malloc(4)", x.malloc(4) / 16, 3);
        CHECK.due("attached(2)", x.attached(2), 3);
        CHECK.due("heaps(2)", x.heaps(2), 4);
        x = Scenes.layOut(2, 15, 14);
        CHECK.due("malloc(4) where there is one", x.malloc(4), 16);
        CHECK.due("heaps(2)", x.heaps(2), 3);
    }

    /** The lowest free physical span and the lowest virtual span that is not mapped, each by itself. */
    private static void theLowestSpansAreTakenApart() {
        MeshedSpans x = Scenes.layOut(2, 8, 7);
        x.mesh(2, 1);
        CHECK.due("malloc(1) behind the mapped ones", x.malloc(1) / 16, 3);
        CHECK.due("mapped(3): the span that the meshing freed", x.mapped(3), 0);
        for (int a : new int[] {12, 16, 20, 24}) {
            x.free(a);
        }
        CHECK.due("malloc(2)", x.malloc(2) / 16, 0);
        CHECK.due("mapped(0)", x.mapped(0), 1);
        CHECK.due("malloc(8)", x.malloc(8) / 16, 1);
        CHECK.due("mapped(1)", x.mapped(1), 3);
    }

    /** "which gets 16 words 0", and "the words of a block are 0 at first". */
    private static void sixteenWordsZero() {
        for (int c = 0; c < 4; c++) {
            MeshedSpans x = new MeshedSpans(3);
            x.malloc(16);
            for (int a = 0; a < 16; a++) {
                x.store(a, -1);
            }
            x.free(0);
            for (int cell = 0; cell < 16 >> c; cell++) {
                x.malloc(1 << c);
            }
            for (int a = 0; a < 16; a++) {
                CHECK.due("class " + c + ": load(" + a + ")", x.load(a), 0);
            }
        }
    }

    /** A cell that held a block of the other span is 0 again, and one that was copied is not kept. */
    private static void aNewBlockIsZeroAfterMeshing() {
        MeshedSpans x = Scenes.layOut(2, 1, 6);
        for (int a = 0; a < 32; a++) {
            x.store(a, 900);
        }
        x.mesh(2, 1);
        x.free(0);
        for (int i = 0; i < 2; i++) {
            int a = x.malloc(4);
            CHECK.due("malloc(4) in the meshed one", a / 16, 1);
            for (int k = 0; k < 4; k++) {
                CHECK.due("load(" + (a + k) + ")", x.load(a + k), 0);
            }
        }
        CHECK.due("load(20)", x.load(20), 900);
        CHECK.due("load(27)", x.load(27), 900);
    }

    /** Neither after a release nor after a meshing nor after a refused malloc. */
    private static void numbersAreNotUsedAgain() {
        MeshedSpans x = Scenes.layOut(2, 0, 1, 2);
        x.mesh(2, 1);
        x.malloc(65);
        x.malloc(8);
        CHECK.due("attached(3)", x.attached(3), 4);
        Scenes.takeSpans(x, 9);
        CHECK.due("malloc(1)", x.malloc(1), NONE);
        CHECK.due("free(64)", x.free(64), true);
        x.malloc(1);
        CHECK.due("attached(0)", x.attached(0), 5);
        x = Scenes.layOut(2, 7);
        CHECK.due("malloc(4)", x.malloc(4), 12);
        for (int a = 16; a < 32; a += 4) {
            x.free(a);
        }
        CHECK.due("heaps(2): the latest one is released", x.heaps(2), 1);
        x.malloc(8);
        CHECK.due("attached(3)", x.attached(3), 2);
    }

    /** "it never changes": meshed once, meshed again. */
    private static void anAddressNeverChanges() {
        MeshedSpans x = Scenes.layOut(2, 1, 2, 4, 8);
        int[] addresses = {0, 20, 40, 60};
        for (int a : addresses) {
            x.store(a + 1, a);
        }
        for (int round = 0; round < 3; round++) {
            for (int a : addresses) {
                CHECK.due("size(" + a + ")", x.size(a), 4);
                CHECK.due("load(" + (a + 1) + ")", x.load(a + 1), a);
            }
            CHECK.due("blocks()", x.blocks(), 8);
            x.mesh(2, 1);
        }
        CHECK.due("count", x.count(x.mapped(0)), 4);
    }
}
