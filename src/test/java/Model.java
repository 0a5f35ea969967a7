import java.util.ArrayList;
import java.util.List;
import java.util.TreeMap;
import java.util.TreeSet;

/**
 * The document's terms put down literally, with collections and objects made anew for everything,
 * as a second opinion for the random runs.
 */
final class Model {
    static final int NONE = -1;
    static final int WILD = -2;
    static final long WILD_ACCESS = 4294967296L;

    static final class Heap {
        int number;
        int sizeClass;
        int physical;
        final TreeSet<Integer> virtuals = new TreeSet<>();
        int madeWith;
        final TreeSet<Integer> used = new TreeSet<>();

        int cells() {
            return 16 / wordsOf(sizeClass);
        }

        boolean full() {
            return used.size() == cells();
        }
    }

    static final class Block {
        int address;
        int words;
        Heap heap;
        int cell;
    }

    /** What a run went through, so that a test can tell that the rare things did happen. */
    int meshedPairs;
    int refusedForVirtual;
    int refusedForPhysical;
    int attachedMeshed;
    int newBlockInMeshed;
    int freedAliasOfAttached;
    int releasedMeshed;
    int keptRight;
    int attachedByTie;

    private Lot lot;
    private final int[][] physical = new int[12][16];
    private final TreeMap<Integer, Integer> map = new TreeMap<>();
    private final List<Heap> heaps = new ArrayList<>();
    private final TreeMap<Integer, Block> live = new TreeMap<>();
    private final Heap[] attached = new Heap[4];
    private final List<List<Integer>> vectors = new ArrayList<>();
    private int made = 0;
    private int probes = 0;

    Model(int seed) {
        lot = new Lot(seed);
        for (int c = 0; c < 4; c++) {
            vectors.add(new ArrayList<>());
        }
    }

    static int wordsOf(int sizeClass) {
        return new int[] {1, 2, 4, 8}[sizeClass];
    }

    void seed(int x) {
        lot = new Lot(x);
    }

    int malloc(int words) {
        if (words < 1 || words > 64) {
            return NONE;
        }
        if (words > 8) {
            return mallocLarge(words % 16 == 0 ? words / 16 : words / 16 + 1);
        }
        int c = words == 1 ? 0 : words == 2 ? 1 : words <= 4 ? 2 : 3;
        if (attached[c] == null || vectors.get(c).isEmpty()) {
            Heap next = choose(c);
            if (next == null) {
                next = make(c);
            }
            if (next == null) {
                return NONE;
            }
            attach(c, next);
        }
        Heap heap = attached[c];
        List<Integer> vector = vectors.get(c);
        Block block = new Block();
        block.cell = vector.remove(vector.size() - 1);
        block.heap = heap;
        block.words = wordsOf(c);
        block.address = heap.madeWith * 16 + block.cell * block.words;
        heap.used.add(block.cell);
        for (int i = 0; i < block.words; i++) {
            physical[heap.physical][block.cell * block.words + i] = 0;
        }
        if (heap.virtuals.size() > 1) {
            newBlockInMeshed++;
        }
        live.put(block.address, block);
        return block.address;
    }

    private Heap choose(int c) {
        Heap best = null;
        boolean tie = false;
        for (Heap heap : heaps) {
            if (heap.sizeClass != c || heap.full()) {
                continue;
            }
            tie |= best != null && heap.used.size() == best.used.size();
            if (best == null || heap.used.size() > best.used.size()) {
                best = heap;
                tie = false;
            }
        }
        attachedByTie += tie ? 1 : 0;
        return best;
    }

    private Heap make(int c) {
        List<Integer> free = freePhysical();
        int virtual = row(1);
        if (free.isEmpty()) {
            refusedForPhysical++;
            return null;
        }
        if (virtual == NONE) {
            refusedForVirtual++;
            return null;
        }
        Heap heap = new Heap();
        heap.number = made++;
        heap.sizeClass = c;
        heap.physical = free.get(0);
        heap.madeWith = virtual;
        heap.virtuals.add(virtual);
        physical[heap.physical] = new int[16];
        map.put(virtual, heap.physical);
        heaps.add(heap);
        return heap;
    }

    private void attach(int c, Heap heap) {
        attachedMeshed += heap.virtuals.size() > 1 ? 1 : 0;
        attached[c] = heap;
        List<Integer> vector = vectors.get(c);
        vector.clear();
        for (int cell = 0; cell < heap.cells(); cell++) {
            if (!heap.used.contains(cell)) {
                vector.add(cell);
            }
        }
        shuffle(vector);
    }

    private <T> void shuffle(List<T> row) {
        for (int i = row.size() - 1; i >= 1; i--) {
            java.util.Collections.swap(row, i, lot.below(i + 1));
        }
    }

    private int mallocLarge(int n) {
        List<Integer> free = freePhysical();
        int first = row(n);
        if (free.size() < n) {
            refusedForPhysical++;
            return NONE;
        }
        if (first == NONE) {
            refusedForVirtual++;
            return NONE;
        }
        for (int i = 0; i < n; i++) {
            map.put(first + i, free.get(i));
            physical[free.get(i)] = new int[16];
        }
        Block block = new Block();
        block.address = first * 16;
        block.words = n * 16;
        live.put(block.address, block);
        return block.address;
    }

    private List<Integer> freePhysical() {
        List<Integer> answer = new ArrayList<>();
        for (int p = 0; p < 12; p++) {
            if (!map.containsValue(p)) {
                answer.add(p);
            }
        }
        return answer;
    }

    private int row(int n) {
        for (int first = 0; first + n <= 24; first++) {
            if (map.subMap(first, first + n).isEmpty()) {
                return first;
            }
        }
        return NONE;
    }

    boolean free(int address) {
        Block block = live.remove(address);
        if (block == null) {
            return false;
        }
        if (block.heap == null) {
            for (int i = 0; i < block.words / 16; i++) {
                map.remove(address / 16 + i);
            }
            return true;
        }
        Heap heap = block.heap;
        heap.used.remove(block.cell);
        if (attached[heap.sizeClass] == heap) {
            freedAliasOfAttached += address / 16 != heap.madeWith ? 1 : 0;
            List<Integer> vector = vectors.get(heap.sizeClass);
            vector.add(block.cell);
            int n = vector.size();
            if (n > 1) {
                java.util.Collections.swap(vector, n - 1, lot.below(n));
            }
        } else if (heap.used.isEmpty()) {
            releasedMeshed += heap.virtuals.size() > 1 ? 1 : 0;
            heap.virtuals.forEach(map::remove);
            heaps.remove(heap);
        }
        return true;
    }

    private Block around(int address) {
        java.util.Map.Entry<Integer, Block> before = live.floorEntry(address);
        if (before == null || address >= before.getKey() + before.getValue().words) {
            return null;
        }
        return before.getValue();
    }

    long load(int address) {
        return around(address) == null ? WILD_ACCESS : physical[map.get(address / 16)][address % 16];
    }

    boolean store(int address, int word) {
        if (around(address) == null) {
            return false;
        }
        physical[map.get(address / 16)][address % 16] = word;
        return true;
    }

    int mesh(int c, int t) {
        if (c < 0 || c > 3 || t < 1 || t > 16) {
            return NONE;
        }
        List<Heap> row = new ArrayList<>();
        for (Heap heap : heaps) {
            if (heap.sizeClass == c && attached[c] != heap && !heap.used.isEmpty() && !heap.full()) {
                row.add(heap);
            }
        }
        shuffle(row);
        int half = row.size() / 2;
        List<Heap> left = row.subList(0, half);
        List<Heap> right = row.subList(half, 2 * half);
        List<Heap> meshed = new ArrayList<>();
        probes = 0;
        for (int i = 0; i <= Math.min(t - 1, half - 1); i++) {
            for (int j = 0; j < half; j++) {
                Heap a = left.get(j);
                Heap b = right.get((j + i) % half);
                if (meshed.contains(a) || meshed.contains(b)) {
                    continue;
                }
                probes++;
                if (a.used.stream().noneMatch(b.used::contains)) {
                    meshed.add(a);
                    meshed.add(b);
                    keptRight += b.used.size() > a.used.size() ? 1 : 0;
                    join(b.used.size() > a.used.size() ? b : a, b.used.size() > a.used.size() ? a : b);
                }
            }
        }
        meshedPairs += meshed.size() / 2;
        return meshed.size() / 2;
    }

    private void join(Heap kept, Heap other) {
        int words = wordsOf(kept.sizeClass);
        for (int cell : other.used) {
            for (int i = cell * words; i < cell * words + words; i++) {
                physical[kept.physical][i] = physical[other.physical][i];
            }
        }
        for (int v : other.virtuals) {
            map.put(v, kept.physical);
        }
        kept.virtuals.addAll(other.virtuals);
        kept.used.addAll(other.used);
        heaps.remove(other);
        for (Block block : live.values()) {
            if (block.heap == other) {
                block.heap = kept;
            }
        }
    }

    int probes() {
        return probes;
    }

    int size(int address) {
        return live.containsKey(address) ? live.get(address).words : WILD;
    }

    int freeSpans() {
        return freePhysical().size();
    }

    int mapped(int span) {
        return map.getOrDefault(span, NONE);
    }

    int count(int p) {
        return p < 0 || p > 11 ? NONE : (int) map.values().stream().filter(q -> q == p).count();
    }

    int blocks() {
        return live.size();
    }

    int heaps(int c) {
        return c < 0 || c > 3 ? NONE : (int) heaps.stream().filter(h -> h.sizeClass == c).count();
    }

    int attached(int c) {
        return c < 0 || c > 3 || attached[c] == null ? NONE : attached[c].number;
    }

    int heapOf(int address) {
        Block block = live.get(address);
        return block == null ? WILD : block.heap == null ? NONE : block.heap.number;
    }

    int vector(int c, int k) {
        boolean there = c >= 0 && c <= 3 && attached[c] != null && k >= 0 && k < vectors.get(c).size();
        return there ? vectors.get(c).get(k) : NONE;
    }

    /** The address of some live block, chosen by n; 0 when there is none. */
    int someBlock(int n) {
        List<Integer> all = new ArrayList<>(live.keySet());
        return all.isEmpty() ? 0 : all.get(n % all.size());
    }

    /** The same among the blocks that are not the last one of their miniheap. */
    int someBlockNotAlone(int n) {
        List<Integer> all = new ArrayList<>();
        for (Block block : live.values()) {
            if (block.heap != null && block.heap.used.size() > 1) {
                all.add(block.address);
            }
        }
        return all.isEmpty() ? 0 : all.get(n % all.size());
    }
}
