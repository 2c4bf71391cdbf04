import java.util.TreeSet;

/** Runs of calls that many tests begin with. */
final class Stores {
    private Stores() {
    }

    static void feed(SharedBlockStore store, int w0, int w1, int w2, int w3) {
        store.feed(w0);
        store.feed(w1);
        store.feed(w2);
        store.feed(w3);
    }

    static void feedThree(SharedBlockStore store) {
        store.feed(1);
        store.feed(2);
        store.feed(3);
    }

    static int append(SharedBlockStore store, int file, int w0, int w1, int w2, int w3) {
        feed(store, w0, w1, w2, w3);
        return store.append(file);
    }

    /**
     * Appends the content 1, 2, 3, last. Reckoned apart from the program: with a last of 0 .. 3999 its
     * home is (last + 2) & 63, so that 60, 124, 188 .. have the home 62, and 62, 126, 190 .. the home 0.
     */
    static int append(SharedBlockStore store, int file, int last) {
        return append(store, file, 1, 2, 3, last);
    }

    /** Appends n new contents, the first with the given last word, to files from the given one on. */
    static void fill(SharedBlockStore store, int firstFile, int firstLast, int n) {
        for (int i = 0; i < n; i++) {
            append(store, firstFile + i / 12, firstLast + i);
        }
    }

    /** A store that went down, with nothing in its stage that a call could be refused for. */
    static SharedBlockStore down() {
        SharedBlockStore store = new SharedBlockStore();
        store.crashAfter(0);
        store.save();
        return store;
    }

    static SharedBlockStore downWithFullStage() {
        SharedBlockStore store = new SharedBlockStore();
        feed(store, 1, 2, 3, 4);
        store.crashAfter(0);
        store.save();
        return store;
    }

    /** The blocks in the cells from one on, behind 63 those from 0 on, with spaces between. */
    static String cells(SharedBlockStore store, int from, int n) {
        StringBuilder text = new StringBuilder();
        for (int i = 0; i < n; i++) {
            text.append(i == 0 ? "" : " ").append(store.cell((from + i) & 63));
        }
        return text.toString();
    }

    /** The blocks that are in the index, by rising numbers. */
    static String indexed(SharedBlockStore store) {
        TreeSet<Integer> blocks = new TreeSet<>();
        int cellsWithBlock = 0;
        for (int c = 0; c < 64; c++) {
            int block = store.cell(c);
            if (block != SharedBlockStore.NONE) {
                blocks.add(block);
                cellsWithBlock++;
            }
        }
        return blocks + (cellsWithBlock == blocks.size() ? "" : " and some twice");
    }

    static String row(SharedBlockStore store, int file) {
        StringBuilder text = new StringBuilder();
        for (int b = 0; b < store.blocks(file); b++) {
            text.append(b == 0 ? "" : " ").append(store.block(file, b));
        }
        return text.toString();
    }
}
