/**
 * An allocator that never moves a block and still gives memory back, by meshing small heaps whose
 * used cells do not overlap. ../shared/DOC.md says what each call does.
 */
public final class MeshedSpans {
    public static final int NONE = -1;
    public static final int WILD = -2;
    public static final long WILD_ACCESS = 4294967296L;

    private static final int PHYSICAL_SPANS = 12;
    private static final int VIRTUAL_SPANS = 24;
    private static final int SPAN_WORDS = 16;
    private static final int ADDRESSES = VIRTUAL_SPANS * SPAN_WORDS;
    private static final int CLASSES = 4;
    private static final int MOST_CELL_WORDS = 8;
    private static final int MOST_WORDS = 64;
    private static final int MOST_ROUNDS = 16;

    private final Draws draws;
    private final Spans spans;
    private final Blocks live;
    /** Place p is for the miniheap whose physical span is p: there is never more than one. */
    private final Miniheap[] miniheaps;
    private final Attachment[] attachments;
    /** The physical spans of the miniheaps to be meshed, kept here so that no call makes a row. */
    private final int[] meshRow;
    private int nextNumber;
    private int latestProbes;

    public MeshedSpans(int seed) {
        draws = new Draws(seed);
        spans = new Spans();
        live = new Blocks();
        miniheaps = new Miniheap[PHYSICAL_SPANS];
        for (int p = 0; p < PHYSICAL_SPANS; p++) {
            miniheaps[p] = new Miniheap(p);
        }
        attachments = new Attachment[CLASSES];
        for (int c = 0; c < CLASSES; c++) {
            attachments[c] = new Attachment();
        }
        meshRow = new int[PHYSICAL_SPANS];
        nextNumber = 0;
        latestProbes = 0;
    }

    public void seed(int x) {
        draws.restart(x);
    }

    public int malloc(int words) {
        if (words < 1 || words > MOST_WORDS) {
            return NONE;
        }
        if (words > MOST_CELL_WORDS) {
            return makeLarge((words + SPAN_WORDS - 1) / SPAN_WORDS);
        }
        return makeSmall(leastClassFor(words));
    }

    public boolean free(int address) {
        if (!live.beginsAt(address)) {
            return false;
        }
        Miniheap heap = miniheapBehind(address);
        if (heap == null) {
            closeLarge(address);
        } else {
            giveBackCell(heap, heap.cellAt(address));
        }
        live.remove(address);
        return true;
    }

    public long load(int address) {
        return live.covers(address) ? spans.read(address) : WILD_ACCESS;
    }

    public boolean store(int address, int word) {
        if (!live.covers(address)) {
            return false;
        }
        spans.write(address, word);
        return true;
    }

    public int mesh(int sizeClass, int t) {
        if (!isClass(sizeClass) || t < 1 || t > MOST_ROUNDS) {
            return NONE;
        }
        int m = gatherMeshable(sizeClass);
        draws.shuffle(meshRow, m);
        int half = m / 2;
        int pairs = 0;
        latestProbes = 0;
        for (int i = 0; i < t && i < half; i++) {
            for (int j = 0; j < half; j++) {
                if (probeAndMesh(j, half + (j + i) % half)) {
                    pairs++;
                }
            }
        }
        return pairs;
    }

    public int probes() {
        return latestProbes;
    }

    public int size(int address) {
        return live.beginsAt(address) ? live.wordsAt(address) : WILD;
    }

    public int freeSpans() {
        return spans.freeOnes();
    }

    public int mapped(int span) {
        return spans.physicalOf(span);
    }

    public int count(int physical) {
        return spans.virtualsOf(physical);
    }

    public int blocks() {
        return live.howMany();
    }

    public int heaps(int sizeClass) {
        if (!isClass(sizeClass)) {
            return NONE;
        }
        int found = 0;
        for (int p = 0; p < PHYSICAL_SPANS; p++) {
            if (miniheaps[p].isOf(sizeClass)) {
                found++;
            }
        }
        return found;
    }

    public int attached(int sizeClass) {
        if (!isClass(sizeClass)) {
            return NONE;
        }
        Miniheap heap = attachments[sizeClass].heap;
        return heap == null ? NONE : heap.number;
    }

    public int heapOf(int address) {
        if (!live.beginsAt(address)) {
            return WILD;
        }
        Miniheap heap = miniheapBehind(address);
        return heap == null ? NONE : heap.number;
    }

    public int vector(int sizeClass, int k) {
        return isClass(sizeClass) ? attachments[sizeClass].cellAtPlace(k) : NONE;
    }

    private static boolean isClass(int sizeClass) {
        return sizeClass >= 0 && sizeClass < CLASSES;
    }

    private static boolean isPhysical(int span) {
        return span >= 0 && span < PHYSICAL_SPANS;
    }

    private static boolean isVirtual(int span) {
        return span >= 0 && span < VIRTUAL_SPANS;
    }

    private static boolean isAddress(int address) {
        return address >= 0 && address < ADDRESSES;
    }

    private static int wordsOfClass(int sizeClass) {
        return 1 << sizeClass;
    }

    private static int cellsOfClass(int sizeClass) {
        return SPAN_WORDS >> sizeClass;
    }

    private static int leastClassFor(int words) {
        int c = 0;
        while (c < CLASSES - 1 && wordsOfClass(c) < words) {
            c++;
        }
        return c;
    }

    /** Null when a large block, or nothing at all, lies behind the address. */
    private Miniheap miniheapBehind(int address) {
        int physical = isAddress(address) ? spans.physicalOf(address / SPAN_WORDS) : NONE;
        if (!isPhysical(physical) || !miniheaps[physical].exists()) {
            return null;
        }
        return miniheaps[physical];
    }

    private int makeLarge(int needed) {
        int first = spans.lowestUnmappedRow(needed);
        if (first == NONE || spans.freeOnes() < needed) {
            return NONE;
        }
        for (int i = 0; i < needed; i++) {
            spans.open(first + i, spans.lowestFree());
        }
        int address = first * SPAN_WORDS;
        live.add(address, needed * SPAN_WORDS);
        return address;
    }

    private void closeLarge(int address) {
        int first = address / SPAN_WORDS;
        int taken = live.wordsAt(address) / SPAN_WORDS;
        for (int i = 0; i < taken; i++) {
            spans.unmap(first + i);
        }
    }

    private int makeSmall(int sizeClass) {
        Attachment attachment = attachments[sizeClass];
        if (attachment.isSpent()) {
            attachNext(sizeClass);
        }
        int address = attachment.handOut();
        if (address != NONE) {
            spans.clear(address, wordsOfClass(sizeClass));
            live.add(address, wordsOfClass(sizeClass));
        }
        return address;
    }

    /** With no miniheap to be had, the spent one stays attached: a refused malloc changes nothing. */
    private void attachNext(int sizeClass) {
        Miniheap next = fullestWithRoom(sizeClass);
        if (next == null) {
            next = newMiniheap(sizeClass);
        }
        if (next != null) {
            attachments[sizeClass].attach(next, draws);
        }
    }

    private Miniheap fullestWithRoom(int sizeClass) {
        Miniheap best = null;
        for (int p = 0; p < PHYSICAL_SPANS; p++) {
            Miniheap heap = miniheaps[p];
            if (heap.isOf(sizeClass) && !heap.isFull() && (best == null || heap.goesBefore(best))) {
                best = heap;
            }
        }
        return best;
    }

    private Miniheap newMiniheap(int sizeClass) {
        int physical = spans.lowestFree();
        int home = spans.lowestUnmappedRow(1);
        if (!isPhysical(physical) || home == NONE) {
            return null;
        }
        spans.open(home, physical);
        miniheaps[physical].begin(nextNumber, sizeClass, home);
        nextNumber++;
        return miniheaps[physical];
    }

    private void giveBackCell(Miniheap heap, int cell) {
        heap.setFree(cell);
        Attachment attachment = attachments[heap.sizeClass];
        if (attachment.heap == heap) {
            attachment.putBack(cell, draws);
        } else if (heap.isEmpty()) {
            spans.unmapAllOf(heap.physical);
            heap.end();
        }
    }

    /** Fills the row by rising numbers and answers how many there are. */
    private int gatherMeshable(int sizeClass) {
        int m = 0;
        for (int p = 0; p < PHYSICAL_SPANS; p++) {
            if (isMeshable(miniheaps[p], sizeClass)) {
                insertByNumber(p, m);
                m++;
            }
        }
        return m;
    }

    private boolean isMeshable(Miniheap heap, int sizeClass) {
        return heap.isOf(sizeClass)
            && attachments[sizeClass].heap != heap
            && !heap.isEmpty()
            && !heap.isFull();
    }

    private void insertByNumber(int physical, int rowLength) {
        int number = miniheaps[physical].number;
        int place = rowLength;
        while (place > 0 && miniheaps[meshRow[place - 1]].number > number) {
            meshRow[place] = meshRow[place - 1];
            place--;
        }
        meshRow[place] = physical;
    }

    /** Two places of the row; a place whose miniheap was meshed in this call holds NONE. */
    private boolean probeAndMesh(int leftPlace, int rightPlace) {
        if (!isPhysical(meshRow[leftPlace]) || !isPhysical(meshRow[rightPlace])) {
            return false;
        }
        latestProbes++;
        Miniheap left = miniheaps[meshRow[leftPlace]];
        Miniheap right = miniheaps[meshRow[rightPlace]];
        if (left.getsInTheWayOf(right)) {
            return false;
        }
        if (left.usedCells() >= right.usedCells()) {
            join(left, right);
        } else {
            join(right, left);
        }
        meshRow[leftPlace] = NONE;
        meshRow[rightPlace] = NONE;
        return true;
    }

    private void join(Miniheap kept, Miniheap other) {
        int words = wordsOfClass(other.sizeClass);
        int cells = cellsOfClass(other.sizeClass);
        for (int cell = 0; cell < cells; cell++) {
            if (other.isUsed(cell)) {
                spans.copy(other.physical, kept.physical, cell * words, words);
            }
        }
        spans.remapAllOf(other.physical, kept.physical);
        kept.takeOverCells(other);
        other.end();
    }

    /** The row of draws. */
    private static final class Draws {
        private int x;

        Draws(int seed) {
            x = seed;
        }

        void restart(int seed) {
            x = seed;
        }

        int below(int n) {
            x = x * 1664525 + 1013904223;
            return n > 0 ? (x >>> 16) % n : 0;
        }

        void shuffle(int[] row, int m) {
            for (int i = m - 1; i >= 1; i--) {
                exchange(row, i, below(i + 1));
            }
        }

        static void exchange(int[] row, int i, int j) {
            int kept = row[i];
            row[i] = row[j];
            row[j] = kept;
        }
    }

    /** The physical words, and which virtual span leads to which physical one. */
    private static final class Spans {
        private final int[] words;
        private final int[] physical;
        /** How many virtual spans lead to each physical one: none to a free one. */
        private final int[] virtuals;

        Spans() {
            words = new int[PHYSICAL_SPANS * SPAN_WORDS];
            physical = new int[VIRTUAL_SPANS];
            for (int v = 0; v < VIRTUAL_SPANS; v++) {
                physical[v] = NONE;
            }
            virtuals = new int[PHYSICAL_SPANS];
        }

        int physicalOf(int virtual) {
            return isVirtual(virtual) ? physical[virtual] : NONE;
        }

        int virtualsOf(int p) {
            return isPhysical(p) ? virtuals[p] : NONE;
        }

        int freeOnes() {
            int found = 0;
            for (int p = 0; p < PHYSICAL_SPANS; p++) {
                if (virtuals[p] == 0) {
                    found++;
                }
            }
            return found;
        }

        int lowestFree() {
            for (int p = 0; p < PHYSICAL_SPANS; p++) {
                if (virtuals[p] == 0) {
                    return p;
                }
            }
            return NONE;
        }

        int lowestUnmappedRow(int length) {
            int run = 0;
            for (int v = 0; v < VIRTUAL_SPANS; v++) {
                run = physical[v] == NONE ? run + 1 : 0;
                if (run == length) {
                    return v - length + 1;
                }
            }
            return NONE;
        }

        void open(int virtual, int p) {
            map(virtual, p);
            clearPlaces(p * SPAN_WORDS, SPAN_WORDS);
        }

        private void map(int virtual, int p) {
            if (isVirtual(virtual) && isPhysical(p)) {
                physical[virtual] = p;
                virtuals[p]++;
            }
        }

        void unmap(int virtual) {
            int p = physicalOf(virtual);
            if (p != NONE) {
                virtuals[p]--;
                physical[virtual] = NONE;
            }
        }

        void unmapAllOf(int p) {
            for (int v = 0; v < VIRTUAL_SPANS; v++) {
                if (physical[v] == p) {
                    unmap(v);
                }
            }
        }

        void remapAllOf(int from, int to) {
            for (int v = 0; v < VIRTUAL_SPANS; v++) {
                if (physical[v] == from) {
                    unmap(v);
                    map(v, to);
                }
            }
        }

        void copy(int from, int to, int offset, int length) {
            System.arraycopy(words, from * SPAN_WORDS + offset, words, to * SPAN_WORDS + offset, length);
        }

        /** The words from an address on, all of them in its span. */
        void clear(int address, int length) {
            clearPlaces(placeOf(address), length);
        }

        private void clearPlaces(int first, int length) {
            if (first >= 0) {
                for (int place = first; place < first + length && place < words.length; place++) {
                    words[place] = 0;
                }
            }
        }

        int read(int address) {
            int place = placeOf(address);
            return place == NONE ? 0 : words[place];
        }

        void write(int address, int word) {
            int place = placeOf(address);
            if (place != NONE) {
                words[place] = word;
            }
        }

        private int placeOf(int address) {
            int p = isAddress(address) ? physical[address / SPAN_WORDS] : NONE;
            return p == NONE ? NONE : p * SPAN_WORDS + address % SPAN_WORDS;
        }
    }

    /**
     * The live blocks by address. They are kept apart from the cells because after a meshing a used
     * cell is behind several virtual spans, and only one of them holds the block.
     */
    private static final class Blocks {
        /** The words of the block that begins at an address, 0 where none does. */
        private final int[] words;
        private final boolean[] inside;
        private int number;

        Blocks() {
            words = new int[ADDRESSES];
            inside = new boolean[ADDRESSES];
            number = 0;
        }

        void add(int address, int length) {
            if (isAddress(address)) {
                words[address] = length;
                mark(address, length, true);
                number++;
            }
        }

        void remove(int address) {
            if (beginsAt(address)) {
                mark(address, words[address], false);
                words[address] = 0;
                number--;
            }
        }

        private void mark(int address, int length, boolean covered) {
            for (int a = address; a < address + length && a < ADDRESSES; a++) {
                inside[a] = covered;
            }
        }

        boolean beginsAt(int address) {
            return wordsAt(address) > 0;
        }

        boolean covers(int address) {
            return isAddress(address) && inside[address];
        }

        int wordsAt(int address) {
            return isAddress(address) ? words[address] : 0;
        }

        int howMany() {
            return number;
        }
    }

    /** The miniheap of one physical span; the object is used again for the next one there. */
    private static final class Miniheap {
        private final int physical;
        private int number;
        private int sizeClass;
        /** The virtual span with which it was made: new blocks have their addresses there. */
        private int home;
        /** Bit k tells that cell k is used. */
        private int used;

        Miniheap(int physical) {
            this.physical = physical;
            number = NONE;
            sizeClass = NONE;
            home = NONE;
            used = 0;
        }

        void begin(int newNumber, int newClass, int newHome) {
            number = newNumber;
            sizeClass = newClass;
            home = newHome;
            used = 0;
        }

        void end() {
            number = NONE;
            sizeClass = NONE;
            home = NONE;
            used = 0;
        }

        boolean exists() {
            return isClass(sizeClass);
        }

        boolean isOf(int wanted) {
            return sizeClass == wanted;
        }

        boolean isEmpty() {
            return used == 0;
        }

        boolean isFull() {
            return usedCells() == cellsOfClass(sizeClass);
        }

        boolean isUsed(int cell) {
            return (used & 1 << cell) != 0;
        }

        int usedCells() {
            return Integer.bitCount(used);
        }

        void setUsed(int cell) {
            used |= 1 << cell;
        }

        void setFree(int cell) {
            used &= ~(1 << cell);
        }

        void takeOverCells(Miniheap other) {
            used |= other.used;
        }

        boolean getsInTheWayOf(Miniheap other) {
            return (used & other.used) != 0;
        }

        boolean goesBefore(Miniheap other) {
            int more = usedCells() - other.usedCells();
            return more > 0 || (more == 0 && number < other.number);
        }

        int cellAt(int address) {
            return address % SPAN_WORDS / wordsOfClass(sizeClass);
        }

        int addressOf(int cell) {
            return home * SPAN_WORDS + cell * wordsOfClass(sizeClass);
        }
    }

    /** The attached miniheap of a class, if it has one, and its vector. */
    private static final class Attachment {
        private Miniheap heap;
        private final int[] cells;
        private int length;

        Attachment() {
            heap = null;
            cells = new int[SPAN_WORDS];
            length = 0;
        }

        boolean isSpent() {
            return heap == null || length == 0;
        }

        void attach(Miniheap next, Draws draws) {
            heap = next;
            length = 0;
            int all = cellsOfClass(next.sizeClass);
            for (int cell = 0; cell < all; cell++) {
                if (!next.isUsed(cell)) {
                    cells[length] = cell;
                    length++;
                }
            }
            draws.shuffle(cells, length);
        }

        /** Answers the address of the cell, NONE when there is none to hand out. */
        int handOut() {
            if (isSpent()) {
                return NONE;
            }
            length--;
            int cell = cells[length];
            heap.setUsed(cell);
            return heap.addressOf(cell);
        }

        void putBack(int cell, Draws draws) {
            if (length < cells.length) {
                cells[length] = cell;
                length++;
            }
            if (length > 1) {
                Draws.exchange(cells, length - 1, draws.below(length));
            }
        }

        int cellAtPlace(int k) {
            return k >= 0 && k < length ? cells[k] : NONE;
        }
    }
}
