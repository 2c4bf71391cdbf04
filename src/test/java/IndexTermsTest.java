/** Terms: fingerprints, homes, looking up, putting in and taking out. Numbers were reckoned apart from the program. */
final class IndexTermsTest {
    public static void main(String[] args) {
        Checks checks = new Checks();
        fingerprintsWrap(checks);
        homes(checks);
        looksUpBehind63To0(checks);
        looksUpJustThatContent(checks);
        looksUpAlongTheLongestRun(checks);
        putsIntoTheFirstEmptyCell(checks);
        takesOutWithNothingBehind(checks);
        takesOutOverTheEnd(checks);
        takesOutUpToTheNextEmptyCell(checks);
        takesOutOfTheLongestRun(checks);
        checks.end();
    }

    /**
     * "The FINGERPRINT of a content w0 .. w3: f is 17; for each word in turn f becomes f * 31 + w (wrapping),
     * then f ^ (f >>> 15); at the end it is f & 255."
     */
    private static void fingerprintsWrap(Checks checks) {
        int[][] contents = {
            {0, 0, 0, 0, 31}, {1, 2, 3, 4, 6}, {7, 7, 7, 7, 11}, {-1, -2, -3, -4, 36}, {-1, -1, -1, -1, 32},
            {2147483647, -2147483648, 5, -1, 11}, {-1, 0, 0, 0, 1}, {123456789, -987654321, 55, 6, 43},
            {2147483647, 2147483647, 2147483647, 2147483647, 4},
            {-2147483648, -2147483648, -2147483648, -2147483648, 59},
        };
        for (int[] content : contents) {
            SharedBlockStore store = new SharedBlockStore();
            Stores.append(store, 0, content[0], content[1], content[2], content[3]);
            checks.due("the cell at home of " + content[0], 0, store.cell(content[4]));
        }
    }

    /**
     * "The INDEX has CELLS 0 .. 63, each empty or with a block; the HOME of a content is its fingerprint & 63."
     * Fingerprints 0, 64, 128, 192 have the first cell as home, 63, 127, 191, 255 the last one.
     */
    private static void homes(Checks checks) {
        for (int last : new int[] {126, 62, 254, 190}) {
            dueAlone(checks, last, 0);
        }
        for (int last : new int[] {125, 61, 253, 189}) {
            dueAlone(checks, last, 63);
        }
    }

    private static void dueAlone(Checks checks, int last, int cell) {
        SharedBlockStore store = new SharedBlockStore();
        Stores.append(store, 0, last);
        for (int c = 0; c < 64; c++) {
            checks.due("cell " + c + " with 1, 2, 3, " + last, c == cell ? 0 : SharedBlockStore.NONE, store.cell(c));
        }
    }

    /**
     * "LOOKING a content UP goes from its home on, behind 63 to 0, to the first cell that is empty or has a
     * block with just that content; each cell that it comes to, that one too, is a PROBE."
     */
    private static void looksUpBehind63To0(Checks checks) {
        SharedBlockStore store = new SharedBlockStore();
        dueFind(checks, store, 61, SharedBlockStore.NONE, 1);
        Stores.append(store, 0, 61);
        dueFind(checks, store, 61, 0, 1);
        dueFind(checks, store, 125, SharedBlockStore.NONE, 2);
        Stores.append(store, 0, 125);
        dueFind(checks, store, 125, 1, 2);
        dueFind(checks, store, 62, SharedBlockStore.NONE, 2);
        dueFind(checks, store, 60, SharedBlockStore.NONE, 1);
        Stores.append(store, 0, 60);
        dueFind(checks, store, 124, SharedBlockStore.NONE, 4);
    }

    private static void dueFind(Checks checks, SharedBlockStore store, int last, int block, int probes) {
        int before = store.probes();
        Stores.feed(store, 1, 2, 3, last);
        checks.due("find of 1, 2, 3, " + last, block, store.find());
        checks.due("its probes", probes, store.probes() - before);
        store.drop();
    }

    /** "or has a block with just that content": not one with the same home and three words of four. */
    private static void looksUpJustThatContent(Checks checks) {
        SharedBlockStore store = new SharedBlockStore();
        Stores.append(store, 0, 249, 2, 3, 61);
        Stores.append(store, 0, 1, 100, 3, 61);
        Stores.append(store, 0, 1, 2, 67, 61);
        Stores.append(store, 0, 1, 2, 3, 125);
        checks.dueText("all of them with the home 63", "0 1 2 3 -1", Stores.cells(store, 63, 5));
        dueFind(checks, store, 61, SharedBlockStore.NONE, 5);
        checks.due("its block", 4, Stores.append(store, 0, 61));
        dueFind(checks, store, 61, 4, 5);
    }

    /** "to the first cell that is empty or has a block with just that content": all 40 blocks lie before it. */
    private static void looksUpAlongTheLongestRun(Checks checks) {
        SharedBlockStore store = longestRun();
        dueFind(checks, store, lastOfRun(0), 0, 1);
        dueFind(checks, store, lastOfRun(39), 39, 40);
        dueFind(checks, store, lastOfRun(40), SharedBlockStore.NONE, 41);
    }

    /** 40 blocks with the home 63, in the cells 63, 0, 1 .. 38; block 0 is in file 5 alone, as 39 is in file 4. */
    private static SharedBlockStore longestRun() {
        SharedBlockStore store = new SharedBlockStore();
        Stores.append(store, 5, lastOfRun(0));
        for (int i = 1; i < 39; i++) {
            Stores.append(store, i / 12, lastOfRun(i));
        }
        Stores.append(store, 4, lastOfRun(39));
        return store;
    }

    private static int lastOfRun(int i) {
        return 61 + 64 * i;
    }

    /** "PUTTING a block IN puts it into the first empty cell from its home on." */
    private static void putsIntoTheFirstEmptyCell(Checks checks) {
        SharedBlockStore store = new SharedBlockStore();
        Stores.append(store, 0, 59);
        Stores.append(store, 0, 61);
        checks.dueText("homes 61 and 63", "0 -1 1 -1 -1 -1", Stores.cells(store, 61, 6));
        Stores.append(store, 0, 123);
        checks.dueText("home 61, between them", "0 2 1 -1 -1 -1", Stores.cells(store, 61, 6));
        Stores.append(store, 0, 187);
        checks.dueText("home 61, behind 63", "0 2 1 3 -1 -1", Stores.cells(store, 61, 6));
        Stores.append(store, 0, 62);
        checks.dueText("home 0, which is taken", "0 2 1 3 4 -1", Stores.cells(store, 61, 6));
    }

    /** "TAKING it OUT empties its cell", and nothing else if the cell behind is empty. */
    private static void takesOutWithNothingBehind(Checks checks) {
        SharedBlockStore store = new SharedBlockStore();
        Stores.append(store, 0, 60);
        Stores.append(store, 1, 124);
        Stores.append(store, 2, 62);
        Stores.append(store, 3, 64);
        checks.dueText("homes 62, 62, 0, 2", "0 1 2 -1 3 -1", Stores.cells(store, 62, 6));
        checks.due("cut of the one before an empty cell", 1, store.cut(2, 0));
        checks.dueText("its cell alone", "0 1 -1 -1 3 -1", Stores.cells(store, 62, 6));
        checks.due("cut of the one in the cell 63", 1, store.cut(1, 0));
        checks.dueText("that cell alone", "0 -1 -1 -1 3 -1", Stores.cells(store, 62, 6));
        checks.due("cut of one that is alone", 1, store.cut(0, 0));
        checks.dueText("nothing but the other", "-1 -1 -1 -1 3 -1", Stores.cells(store, 62, 6));
    }

    /**
     * "then, for each of the cells behind, up to the next empty one, in turn: it is emptied, and its block put
     * in (no probes)." Some move, over the end too, and what is at home stays.
     */
    private static void takesOutOverTheEnd(Checks checks) {
        SharedBlockStore store = new SharedBlockStore();
        // Homes 62, 63, 62, 1, 62: the blocks lie in the cells 62, 63, 0, 1, 2.
        int[] lasts = {60, 61, 124, 63, 188};
        for (int i = 0; i < lasts.length; i++) {
            Stores.append(store, i, lasts[i]);
        }
        checks.dueText("cells", "0 1 2 3 4 -1", Stores.cells(store, 62, 6));
        int probes = store.probes();
        checks.due("cut", 1, store.cut(0, 0));
        checks.dueText("cells after it", "2 1 4 3 -1 -1", Stores.cells(store, 62, 6));
        checks.due("cut of the one at 63", 1, store.cut(1, 0));
        checks.dueText("cells then", "2 4 -1 3 -1 -1", Stores.cells(store, 62, 6));
        checks.due("no probes of taking out", probes, store.probes());
    }

    /** "up to the next empty one": what lies behind that stays where it is. */
    private static void takesOutUpToTheNextEmptyCell(Checks checks) {
        SharedBlockStore store = new SharedBlockStore();
        // Homes 61, 61, 0, 0: cells 61, 62, none in 63, then 0, 1.
        int[] lasts = {59, 123, 62, 126};
        for (int i = 0; i < lasts.length; i++) {
            Stores.append(store, i, lasts[i]);
        }
        checks.dueText("cells", "0 1 -1 2 3 -1", Stores.cells(store, 61, 6));
        store.cut(0, 0);
        checks.dueText("cells after it", "1 -1 -1 2 3 -1", Stores.cells(store, 61, 6));
    }

    /** "for each of the cells behind": all 39 others move by one, over the end too; behind the last there is none. */
    private static void takesOutOfTheLongestRun(Checks checks) {
        SharedBlockStore store = longestRun();
        for (int i = 0; i < 40; i++) {
            checks.due("cell of block " + i, i, store.cell((63 + i) & 63));
        }
        int probes = store.probes();
        checks.due("cut of the first", 1, store.cut(5, 0));
        for (int i = 1; i < 40; i++) {
            checks.due("cell of block " + i + " then", i, store.cell((62 + i) & 63));
        }
        checks.due("the cell that is free now", SharedBlockStore.NONE, store.cell(38));
        checks.due("cut of the last", 1, store.cut(4, 0));
        checks.due("the cell of the last", SharedBlockStore.NONE, store.cell(37));
        checks.due("the cell before", 38, store.cell(36));
        checks.due("no probes", probes, store.probes());
    }
}
