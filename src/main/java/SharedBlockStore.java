import java.util.Arrays;

/**
 * A store of files made of blocks, each content of which is kept once. The numbered promises that it
 * keeps stand in the project's document.
 */
public final class SharedBlockStore {
    public static final int NONE = -1;
    public static final int DOWN = -2;

    private static final int BLOCKS = 40;
    private static final int BLOCK_WORDS = 4;
    private static final int FILES = 6;
    private static final int ROW_BLOCKS = 12;
    private static final int CELLS = 64;
    private static final int MOST_WRITES_TOLD = 1000;

    private final int[] stage;
    private int staged;
    private final Disk disk;
    private final Index index;
    private final Rows files;
    private Slot latest;
    private Slot other;
    private final Power power;

    public SharedBlockStore() {
        stage = new int[BLOCK_WORDS];
        disk = new Disk();
        index = new Index(disk);
        files = new Rows();
        latest = new Slot();
        other = new Slot();
        power = new Power();
    }

    public int feed(int word) throws IllegalStateException {
        demandPower();
        if (staged >= BLOCK_WORDS) {
            throw new IllegalStateException("the stage is full");
        }
        stage[staged] = word;
        staged++;
        return staged;
    }

    public int drop() throws IllegalStateException {
        demandPower();
        int had = staged;
        staged = 0;
        return had;
    }

    public int append(int file) throws IllegalStateException, IndexOutOfBoundsException {
        demandPower();
        demandFile(file);
        demandFullStage();
        if (files.length(file) >= ROW_BLOCKS) {
            throw new IllegalStateException("the file is full");
        }
        int chosen = index.gateLets(stage) ? index.lookUp(stage) : NONE;
        if (chosen == NONE) {
            chosen = leastFree();
            if (chosen == NONE) {
                return NONE;
            }
            if (!power.letsWrite()) {
                return DOWN;
            }
            disk.write(chosen, stage);
            index.admit(chosen);
        }
        files.add(file, chosen);
        staged = 0;
        return chosen;
    }

    public int cut(int file, int from) throws IllegalStateException, IndexOutOfBoundsException {
        demandPower();
        demandFile(file);
        if (from < 0 || from > files.length(file)) {
            throw new IndexOutOfBoundsException("the file does not reach there");
        }
        files.shorten(file, from);
        return takeOutFree();
    }

    public int copy(int file, int from) throws IllegalStateException, IndexOutOfBoundsException {
        demandPower();
        demandFile(file);
        demandFile(from);
        // A row is emptied before it is filled, so one copied onto itself would be lost.
        if (file != from) {
            files.replaceRow(file, files, from);
        }
        return takeOutFree();
    }

    public int blocks(int file) throws IllegalStateException, IndexOutOfBoundsException {
        demandPower();
        demandFile(file);
        return files.length(file);
    }

    public int block(int file, int b) throws IllegalStateException, IndexOutOfBoundsException {
        demandPower();
        demandBlockOf(file, b);
        return files.entry(file, b);
    }

    public int word(int file, int b, int i) throws IllegalStateException, IndexOutOfBoundsException {
        demandPower();
        demandBlockOf(file, b);
        if (i < 0 || i >= BLOCK_WORDS) {
            throw new IndexOutOfBoundsException("no such word");
        }
        return disk.read(files.entry(file, b), i);
    }

    public int find() throws IllegalStateException {
        demandPower();
        demandFullStage();
        return index.lookUp(stage);
    }

    public boolean passes() throws IllegalStateException {
        demandPower();
        demandFullStage();
        return index.gateLets(stage);
    }

    public int cell(int c) throws IllegalStateException {
        demandPower();
        return c < 0 || c >= CELLS ? NONE : index.inCell(c);
    }

    public int count(int what) throws IllegalStateException {
        demandPower();
        switch (what) {
            case 0:
                return usedBlocks();
            case 1:
                return blocksOnlySaved();
            case 2:
                return index.gateBits();
            case 3:
                return latest.number();
            default:
                return NONE;
        }
    }

    public void refresh() throws IllegalStateException {
        demandPower();
        makeIndexAnew();
    }

    public int save() throws IllegalStateException {
        demandPower();
        for (int file = 0; file < FILES; file++) {
            if (!power.letsWrite()) {
                return DOWN;
            }
            other.rows().replaceRow(file, files, file);
        }
        if (!power.letsWrite()) {
            return DOWN;
        }
        other.writeHead(latest.number() + 1);
        swapSlots();
        takeOutFree();
        return latest.number();
    }

    public void crashAfter(int n) throws IllegalArgumentException {
        if (n < NONE || n > MOST_WRITES_TOLD) {
            throw new IllegalArgumentException("not NONE .. 1000");
        }
        power.failAfter(n);
    }

    public boolean down() {
        return power.isOff();
    }

    public int recover() {
        power.comeBack();
        staged = 0;
        for (int file = 0; file < FILES; file++) {
            files.replaceRow(file, latest.rows(), file);
        }
        makeIndexAnew();
        return latest.number();
    }

    public int probes() {
        return index.probesMade();
    }

    public int writes() {
        return power.writesDone();
    }

    private void demandPower() {
        if (power.isOff()) {
            throw new IllegalStateException("the store is down");
        }
    }

    private void demandFullStage() {
        if (staged < BLOCK_WORDS) {
            throw new IllegalStateException("the stage has less than four words");
        }
    }

    private void demandBlockOf(int file, int b) {
        demandFile(file);
        if (b < 0 || b >= files.length(file)) {
            throw new IndexOutOfBoundsException("no such block");
        }
    }

    private static void demandFile(int file) {
        if (file < 0 || file >= FILES) {
            throw new IndexOutOfBoundsException("no such file");
        }
    }

    private boolean isUsed(int block) {
        return files.have(block) || latest.rows().have(block);
    }

    private int leastFree() {
        for (int block = 0; block < BLOCKS; block++) {
            if (!isUsed(block)) {
                return block;
            }
        }
        return NONE;
    }

    private int usedBlocks() {
        int used = 0;
        for (int block = 0; block < BLOCKS; block++) {
            if (isUsed(block)) {
                used++;
            }
        }
        return used;
    }

    private int blocksOnlySaved() {
        int only = 0;
        for (int block = 0; block < BLOCKS; block++) {
            if (latest.rows().have(block) && !files.have(block)) {
                only++;
            }
        }
        return only;
    }

    private int takeOutFree() {
        int taken = 0;
        for (int block = 0; block < BLOCKS; block++) {
            if (!isUsed(block) && index.takeOut(block)) {
                taken++;
            }
        }
        return taken;
    }

    private void makeIndexAnew() {
        index.clear();
        for (int block = 0; block < BLOCKS; block++) {
            if (isUsed(block)) {
                index.admit(block);
            }
        }
    }

    private void swapSlots() {
        Slot written = other;
        other = latest;
        latest = written;
    }

    /** What is reckoned from four words of an array, so that the stage and the disk need no copies. */
    private static final class Content {
        private Content() {
        }

        static int fingerprint(int[] words, int start) {
            int f = 17;
            for (int i = 0; i < BLOCK_WORDS; i++) {
                f = f * 31 + words[start + i];
                f = f ^ (f >>> 15);
            }
            return f & 255;
        }

        static long bitsOfGate(int[] words, int start) {
            int f = fingerprint(words, start);
            int mixed = words[start] ^ words[start + 1] ^ words[start + 2] ^ words[start + 3];
            return (1L << (f & 63)) | (1L << (f >> 2)) | (1L << (mixed & 63));
        }
    }

    /** The words of all blocks; a block keeps its content while it is free, until it is written again. */
    private static final class Disk {
        private final int[] words;

        Disk() {
            words = new int[BLOCKS * BLOCK_WORDS];
        }

        int read(int block, int i) {
            return words[block * BLOCK_WORDS + i];
        }

        void write(int block, int[] content) {
            System.arraycopy(content, 0, words, block * BLOCK_WORDS, BLOCK_WORDS);
        }

        boolean holds(int block, int[] content) {
            for (int i = 0; i < BLOCK_WORDS; i++) {
                if (read(block, i) != content[i]) {
                    return false;
                }
            }
            return true;
        }

        int homeOf(int block) {
            return Content.fingerprint(words, block * BLOCK_WORDS) & (CELLS - 1);
        }

        long bitsOf(int block) {
            return Content.bitsOfGate(words, block * BLOCK_WORDS);
        }
    }

    /** The index with its gate. It never has more than 40 blocks, so some of its 64 cells are empty. */
    private static final class Index {
        private final Disk disk;
        private final int[] blockIn;
        private final int[] cellOf;
        private long gate;
        private int probed;

        Index(Disk disk) {
            this.disk = disk;
            blockIn = new int[CELLS];
            cellOf = new int[BLOCKS];
            Arrays.fill(blockIn, NONE);
            Arrays.fill(cellOf, NONE);
        }

        void clear() {
            Arrays.fill(blockIn, NONE);
            Arrays.fill(cellOf, NONE);
            gate = 0L;
        }

        int inCell(int c) {
            return blockIn[c];
        }

        int gateBits() {
            return Long.bitCount(gate);
        }

        int probesMade() {
            return probed;
        }

        boolean gateLets(int[] content) {
            long bits = Content.bitsOfGate(content, 0);
            return (gate & bits) == bits;
        }

        int lookUp(int[] content) {
            int home = Content.fingerprint(content, 0) & (CELLS - 1);
            for (int step = 0; step < CELLS; step++) {
                int met = blockIn[(home + step) & (CELLS - 1)];
                probed++;
                if (met == NONE || disk.holds(met, content)) {
                    return met;
                }
            }
            return NONE;
        }

        void admit(int block) {
            gate |= disk.bitsOf(block);
            putIn(block);
        }

        boolean takeOut(int block) {
            int hole = cellOf[block];
            if (hole == NONE) {
                return false;
            }
            blockIn[hole] = NONE;
            cellOf[block] = NONE;
            putInAnewBehind(hole);
            return true;
        }

        // Looking up stops at an empty cell, so the hole must not lie between a block and its home.
        private void putInAnewBehind(int hole) {
            for (int step = 1; step < CELLS; step++) {
                int behind = (hole + step) & (CELLS - 1);
                int moved = blockIn[behind];
                if (moved == NONE) {
                    return;
                }
                blockIn[behind] = NONE;
                putIn(moved);
            }
        }

        private void putIn(int block) {
            int home = disk.homeOf(block);
            for (int step = 0; step < CELLS; step++) {
                int at = (home + step) & (CELLS - 1);
                if (blockIn[at] == NONE) {
                    blockIn[at] = block;
                    cellOf[block] = at;
                    return;
                }
            }
        }
    }

    /** A row of blocks for each file, and how often each block stands in them all. */
    private static final class Rows {
        private final int[] lengths;
        private final int[] entries;
        private final int[] timesHad;

        Rows() {
            lengths = new int[FILES];
            entries = new int[FILES * ROW_BLOCKS];
            timesHad = new int[BLOCKS];
        }

        int length(int file) {
            return lengths[file];
        }

        int entry(int file, int b) {
            return entries[file * ROW_BLOCKS + b];
        }

        boolean have(int block) {
            return timesHad[block] > 0;
        }

        void add(int file, int block) {
            entries[file * ROW_BLOCKS + lengths[file]] = block;
            lengths[file]++;
            timesHad[block]++;
        }

        void shorten(int file, int length) {
            for (int b = length; b < lengths[file]; b++) {
                timesHad[entry(file, b)]--;
            }
            lengths[file] = length;
        }

        void replaceRow(int file, Rows from, int source) {
            shorten(file, 0);
            int length = from.length(source);
            for (int b = 0; b < length; b++) {
                add(file, from.entry(source, b));
            }
        }
    }

    /** One of the two places of a saving; rows in it count for nothing before its head is written. */
    private static final class Slot {
        private final Rows rows;
        private int number;

        Slot() {
            rows = new Rows();
        }

        Rows rows() {
            return rows;
        }

        int number() {
            return number;
        }

        void writeHead(int next) {
            number = next;
        }
    }

    /** Counts writes and loses them when it was told to. */
    private static final class Power {
        private int done;
        private int left;
        private boolean off;

        Power() {
            left = NONE;
        }

        boolean letsWrite() {
            if (left == 0) {
                off = true;
                return false;
            }
            if (left > 0) {
                left--;
            }
            done++;
            return true;
        }

        void failAfter(int n) {
            left = n;
        }

        void comeBack() {
            left = NONE;
            off = false;
        }

        boolean isOff() {
            return off;
        }

        int writesDone() {
            return done;
        }
    }
}
