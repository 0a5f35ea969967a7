/**
 * Runs of 512 calls each, the program beside the model of the document. The "random" choices come
 * from a fixed row, so that every run of the test is the same.
 */
public final class RandomRunsTest {
    private static final int RUNS = 6000;
    private static final int CALLS = 512;
    private static final int[] ODD = {-1, -2, 384, 385, 24, 12, 16, 17, 4, Integer.MIN_VALUE, Integer.MAX_VALUE, -16, 65, 0};

    private final Check check = new Check("RandomRunsTest");
    private final long[] seen = new long[9];
    private long dice = 20261115L;

    public static void main(String[] args) {
        new RandomRunsTest().all();
    }

    private void all() {
        for (int run = 0; run < RUNS; run++) {
            oneRun(run);
        }
        String[] names = {"meshed pairs", "refused for virtual spans", "refused for physical spans",
            "attached a meshed miniheap", "new block in a meshed miniheap", "freed an alias of the attached one",
            "released a meshed miniheap", "RIGHT kept", "attached by the lowest number"};
        for (int i = 0; i < names.length; i++) {
            check.due("the runs went through: " + names[i], seen[i] > 100, true);
        }
        check.done();
    }

    private int roll(int n) {
        dice = dice * 6364136223846793005L + 1442695040888963407L;
        return (int) ((dice >>> 33) % n);
    }

    /** A run keeps to one class for the most part. */
    private void oneRun(int run) {
        int seed = roll(4) == 0 ? ODD[roll(ODD.length)] : roll(Integer.MAX_VALUE) - roll(Integer.MAX_VALUE);
        MeshedSpans x = new MeshedSpans(seed);
        Model model = new Model(seed);
        int favourite = roll(4);
        if (roll(2) == 0) {
            mixedCalls(run, x, model, favourite);
        } else {
            callsInRounds(run, x, model, favourite);
        }
        addWhatWasSeen(model);
    }

    private void mixedCalls(int run, MeshedSpans x, Model model, int favourite) {
        int large = roll(3) == 0 ? 10 : 40;
        boolean filling = true;
        for (int call = 0; call < CALLS; call++) {
            filling ^= roll(60) == 0;
            int kind = roll(20);
            if (kind < 11) {
                change(run, call, x, model, favourite, large, filling);
            } else if (kind < 13) {
                mesh(run, call, x, model, favourite);
            } else {
                look(run, call, x, model);
            }
        }
    }

    /** Filling, thinning out and meshing: only so do virtual spans run out before physical ones. */
    private void callsInRounds(int run, MeshedSpans x, Model model, int favourite) {
        int fill = 30 + roll(60);
        int thin = fill * (5 + roll(5)) / 10;
        int round = fill + thin + 6 + roll(10);
        for (int call = 0; call < CALLS; call++) {
            int at = call % round;
            if (roll(6) == 0) {
                look(run, call, x, model);
            } else if (at < fill) {
                change(run, call, x, model, favourite, 200, true);
            } else if (at < fill + thin) {
                free(run, call, x, model, model.someBlockNotAlone(roll(400)));
            } else {
                mesh(run, call, x, model, favourite);
            }
        }
    }

    private void addWhatWasSeen(Model model) {
        int[] gone = {model.meshedPairs, model.refusedForVirtual, model.refusedForPhysical, model.attachedMeshed,
            model.newBlockInMeshed, model.freedAliasOfAttached, model.releasedMeshed, model.keptRight, model.attachedByTie};
        for (int i = 0; i < gone.length; i++) {
            seen[i] += gone[i];
        }
    }

    private void due(int run, int call, String what, long got, long want) {
        check.due("run " + run + ", call " + call + ": " + what, got, want);
    }

    private void change(int run, int call, MeshedSpans x, Model model, int favourite, int large, boolean filling) {
        int kind = roll(10);
        if (kind < 1) {
            int address = roll(2) == 0 ? model.someBlock(roll(400)) + roll(4) : address(model);
            int word = roll(5) == 0 ? ODD[roll(ODD.length)] : roll(1000);
            due(run, call, "store(" + address + ", " + word + ")", x.store(address, word) ? 1 : 0, model.store(address, word) ? 1 : 0);
        } else if (kind < 2 && roll(10) == 0) {
            int seed = roll(1000) - 500;
            x.seed(seed);
            model.seed(seed);
        } else if (filling ? kind < 9 : kind < 4) {
            int words = roll(large) == 0 ? 9 + roll(56) : roll(6) == 0 ? 1 + roll(8) : 1 << favourite;
            words = roll(50) == 0 ? ODD[roll(ODD.length)] : words;
            due(run, call, "malloc(" + words + ")", x.malloc(words), model.malloc(words));
        } else {
            free(run, call, x, model, roll(8) == 0 ? address(model) : model.someBlock(roll(400)));
        }
    }

    private void free(int run, int call, MeshedSpans x, Model model, int address) {
        due(run, call, "free(" + address + ")", x.free(address) ? 1 : 0, model.free(address) ? 1 : 0);
    }

    private void mesh(int run, int call, MeshedSpans x, Model model, int favourite) {
        int sizeClass = roll(12) == 0 ? roll(6) - 1 : favourite;
        int t = roll(12) == 0 ? ODD[roll(ODD.length)] : 1 + roll(roll(2) == 0 ? 3 : 16);
        due(run, call, "mesh(" + sizeClass + ", " + t + ")", x.mesh(sizeClass, t), model.mesh(sizeClass, t));
    }

    private int address(Model model) {
        int kind = roll(10);
        return kind == 0 ? ODD[roll(ODD.length)] : kind < 5 ? model.someBlock(roll(400)) + roll(3) : roll(386) - 1;
    }

    private void look(int run, int call, MeshedSpans x, Model model) {
        int address = address(model);
        int span = roll(20) == 0 ? ODD[roll(ODD.length)] : roll(26) - 1;
        int physical = roll(20) == 0 ? ODD[roll(ODD.length)] : roll(14) - 1;
        int sizeClass = roll(20) == 0 ? ODD[roll(ODD.length)] : roll(6) - 1;
        int k = roll(20) == 0 ? ODD[roll(ODD.length)] : roll(18) - 1;
        switch (roll(11)) {
            case 0 -> due(run, call, "load(" + address + ")", x.load(address), model.load(address));
            case 1 -> due(run, call, "probes()", x.probes(), model.probes());
            case 2 -> due(run, call, "size(" + address + ")", x.size(address), model.size(address));
            case 3 -> due(run, call, "freeSpans()", x.freeSpans(), model.freeSpans());
            case 4 -> due(run, call, "mapped(" + span + ")", x.mapped(span), model.mapped(span));
            case 5 -> due(run, call, "count(" + physical + ")", x.count(physical), model.count(physical));
            case 6 -> due(run, call, "blocks()", x.blocks(), model.blocks());
            case 7 -> due(run, call, "heaps(" + sizeClass + ")", x.heaps(sizeClass), model.heaps(sizeClass));
            case 8 -> due(run, call, "attached(" + sizeClass + ")", x.attached(sizeClass), model.attached(sizeClass));
            case 9 -> due(run, call, "heapOf(" + address + ")", x.heapOf(address), model.heapOf(address));
            default -> due(run, call, "vector(" + sizeClass + ", " + k + ")", x.vector(sizeClass, k), model.vector(sizeClass, k));
        }
    }
}
