import java.util.Random;

/** Plays the same long runs of calls on the class and on the model, with equal answers due. */
final class ModelTest {
    private static final int RUNS = 4000;
    private static final int CALLS = 512;
    private static final int SWEEP = 64 + 6 + 4 + 72 + 3;

    /** The contents that a run draws from. */
    private enum Pool { FEW, CROWDED, MANY, ANY }

    private enum Kind {
        FEED, DROP, APPEND, CUT, COPY, BLOCKS, BLOCK, WORD, FIND, PASSES, CELL, COUNT, REFRESH, SAVE, CRASH_AFTER, DOWN,
        RECOVER, PROBES, WRITES
    }

    private final Random random;
    private final Pool pool;
    private final int crashes;
    private final int changes;
    private final SharedBlockStore store = new SharedBlockStore();
    private final Model model = new Model();
    private int calls;
    private String difference;

    private ModelTest(int seed) {
        random = new Random(seed);
        pool = Pool.values()[seed % 4];
        crashes = seed / 4 % 3;
        // Files that seldom change let the disk become full.
        changes = 4 + 4 * (seed / 12 % 3);
    }

    public static void main(String[] args) {
        Checks checks = new Checks();
        for (int seed = 0; seed < RUNS; seed++) {
            ModelTest test = new ModelTest(seed);
            test.play();
            checks.dueText("run " + seed, "no difference", test.difference == null ? "no difference" : test.difference);
        }
        checks.end();
    }

    private void play() {
        while (difference == null && calls < CALLS - SWEEP - 7) {
            step();
        }
        sweep();
    }

    private void step() {
        int chance = random.nextInt(100);
        if (model.down() && chance < 30) {
            same(Kind.RECOVER, 0, 0, 0);
        } else if (chance < 48) {
            appendContent();
        } else if (chance < 48 + changes) {
            changeFiles();
        } else if (chance < 72) {
            lookUpContent();
        } else if (chance < 82) {
            read();
        } else if (chance < 87) {
            same(Kind.SAVE, 0, 0, 0);
        } else if (chance < 87 + 2 * crashes) {
            tellPower();
        } else if (chance < 92) {
            same(random.nextInt(3) == 0 ? Kind.REFRESH : Kind.DOWN, 0, 0, 0);
        } else {
            Kind[] kinds = Kind.values();
            same(kinds[random.nextInt(kinds.length)], edge(), edge(), edge());
        }
    }

    private void tellPower() {
        int n = random.nextInt(8) == 0 ? random.nextInt(2000) - 500 : random.nextInt(25) - 1;
        same(Kind.CRASH_AFTER, n, 0, 0);
    }

    private void appendContent() {
        feedContent();
        same(Kind.APPEND, random.nextInt(6), 0, 0);
    }

    private void lookUpContent() {
        feedContent();
        same(Kind.PASSES, 0, 0, 0);
        same(Kind.FIND, 0, 0, 0);
        if (random.nextInt(2) == 0) {
            same(Kind.DROP, 0, 0, 0);
        } else {
            same(Kind.APPEND, random.nextInt(6), 0, 0);
        }
    }

    private void feedContent() {
        int content = random.nextInt(60);
        for (int i = 0; i < 4; i++) {
            same(Kind.FEED, wordOf(content, i), 0, 0);
        }
    }

    private int wordOf(int content, int i) {
        switch (pool) {
            case FEW:
                return i == 3 ? content % 8 : i;
            case CROWDED:
                // The last word alone moves the home by one each, 59 having the home 61.
                return i < 3 ? i + 1 : 59 + content % 6 + 64 * (content / 6);
            case MANY:
                return i == 1 ? content * content : content - 30;
            default:
                return random.nextInt(4) == 0 ? random.nextInt() : content;
        }
    }

    private void changeFiles() {
        int file = random.nextInt(6);
        if (random.nextInt(3) == 0) {
            same(Kind.COPY, file, random.nextInt(6), 0);
        } else {
            same(Kind.CUT, file, random.nextInt(13), 0);
        }
    }

    private void read() {
        Kind[] reading = {Kind.BLOCKS, Kind.BLOCK, Kind.WORD, Kind.CELL, Kind.COUNT, Kind.PROBES, Kind.WRITES};
        Kind kind = reading[random.nextInt(reading.length)];
        int first = kind == Kind.CELL ? random.nextInt(64) : random.nextInt(6);
        same(kind, first, random.nextInt(6), random.nextInt(4));
    }

    private int edge() {
        int[] edges = {-2, -1, 0, 1, 3, 4, 5, 6, 11, 12, 13, 63, 64, 1000, 1001, Integer.MIN_VALUE, Integer.MAX_VALUE};
        return edges[random.nextInt(edges.length)];
    }

    private void sweep() {
        same(Kind.PROBES, 0, 0, 0);
        same(Kind.WRITES, 0, 0, 0);
        if (model.down()) {
            same(Kind.RECOVER, 0, 0, 0);
        }
        for (int c = 0; c < 64; c++) {
            same(Kind.CELL, c, 0, 0);
        }
        for (int i = 0; i < 72; i++) {
            same(Kind.BLOCK, i / 12, i % 12, 0);
        }
        for (int what = 0; what < 4; what++) {
            same(Kind.COUNT, what, 0, 0);
        }
        for (int file = 0; file < 6; file++) {
            same(Kind.BLOCKS, file, 0, 0);
        }
    }

    private void same(Kind kind, int a, int b, int c) {
        calls++;
        String want = Checks.answer(() -> onModel(kind, a, b, c));
        String got = Checks.answer(() -> onStore(kind, a, b, c));
        if (difference == null && !want.equals(got)) {
            difference = "call " + calls + ": " + kind + "(" + a + ", " + b + ", " + c + "): "
                + got + " and not " + want;
        }
    }

    private int onStore(Kind kind, int a, int b, int c) {
        switch (kind) {
            case FEED: return store.feed(a);
            case DROP: return store.drop();
            case APPEND: return store.append(a);
            case CUT: return store.cut(a, b);
            case COPY: return store.copy(a, b);
            case BLOCKS: return store.blocks(a);
            case BLOCK: return store.block(a, b);
            case WORD: return store.word(a, b, c);
            case FIND: return store.find();
            case PASSES: return store.passes() ? 1 : 0;
            case CELL: return store.cell(a);
            case COUNT: return store.count(a);
            case REFRESH: store.refresh(); return 0;
            case SAVE: return store.save();
            case CRASH_AFTER: store.crashAfter(a); return 0;
            case DOWN: return store.down() ? 1 : 0;
            case RECOVER: return store.recover();
            case PROBES: return store.probes();
            default: return store.writes();
        }
    }

    private int onModel(Kind kind, int a, int b, int c) {
        switch (kind) {
            case FEED: return model.feed(a);
            case DROP: return model.drop();
            case APPEND: return model.append(a);
            case CUT: return model.cut(a, b);
            case COPY: return model.copy(a, b);
            case BLOCKS: return model.blocks(a);
            case BLOCK: return model.block(a, b);
            case WORD: return model.word(a, b, c);
            case FIND: return model.find();
            case PASSES: return model.passes() ? 1 : 0;
            case CELL: return model.cell(a);
            case COUNT: return model.count(a);
            case REFRESH: model.refresh(); return 0;
            case SAVE: return model.save();
            case CRASH_AFTER: model.crashAfter(a); return 0;
            case DOWN: return model.down() ? 1 : 0;
            case RECOVER: return model.recover();
            case PROBES: return model.probes();
            default: return model.writes();
        }
    }
}
