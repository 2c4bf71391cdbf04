/** Terms: writes, those that are lost, and saving in two slots in turn. */
final class SaveTermsTest {
    public static void main(String[] args) {
        Checks checks = new Checks();
        writesOfEachKind(checks);
        lostWriteOfABlock(checks);
        firstLostWriteIsTheLast(checks);
        numbersFromOneOn(checks);
        beforeTheFirst(checks);
        rowsOfAllFiles(checks);
        slotsInTurn(checks);
        slotsInTurnBehindFailures(checks);
        savedWithTheHead(checks);
        givesBackWithTheHead(checks);
        checks.end();
    }

    /** "A WRITE is one of a block, of a file's row into a slot, or of a slot's head." */
    private static void writesOfEachKind(Checks checks) {
        SharedBlockStore store = new SharedBlockStore();
        store.save();
        checks.due("six rows, though they are empty, and a head", 7, store.writes());
        Stores.append(store, 0, 1);
        checks.due("a block", 8, store.writes());
        Stores.append(store, 0, 1);
        checks.due("a block that is there", 8, store.writes());
        store.copy(1, 0);
        store.cut(0, 0);
        store.refresh();
        store.feed(1);
        store.drop();
        store.recover();
        checks.due("nothing else", 8, store.writes());
    }

    /**
     * "The power may be told to fail: then, from some write on, writes are LOST; with the first one that is lost
     * the store is DOWN, and what the call was to do behind that is not done."
     */
    private static void lostWriteOfABlock(Checks checks) {
        SharedBlockStore store = new SharedBlockStore();
        Stores.append(store, 0, 60);
        store.save();
        store.crashAfter(1);
        checks.due("a write that is done", 1, Stores.append(store, 0, 124));
        checks.due("not down by it", false, store.down());
        checks.due("probes before", 0, store.probes());
        // The bits of 1, 2, 3, 316 are those of 1, 2, 3, 60, so it is looked up before its write is lost.
        checks.due("a write that is lost", SharedBlockStore.DOWN, Stores.append(store, 0, 316));
        checks.due("down by it", true, store.down());
        checks.due("writes", 9, store.writes());
        checks.due("the probes before the write", 3, store.probes());
        store.recover();
        checks.dueText("row", "0", Stores.row(store, 0));
        checks.due("used", 1, store.count(0));
        checks.due("the block of the next content", 1, Stores.append(store, 0, 188));
    }

    /** "with the first one that is lost the store is DOWN": the rows and the head behind it are not written. */
    private static void firstLostWriteIsTheLast(Checks checks) {
        for (int done = 0; done < 7; done++) {
            SharedBlockStore store = new SharedBlockStore();
            Stores.append(store, 5, 1);
            store.crashAfter(done);
            checks.due("save", SharedBlockStore.DOWN, store.save());
            checks.due("writes", 1 + done, store.writes());
            checks.due("down", true, store.down());
            checks.illegalState("another save", store::save);
            checks.due("writes then", 1 + done, store.writes());
        }
        SharedBlockStore store = new SharedBlockStore();
        store.crashAfter(7);
        checks.due("save with seven writes", 1, store.save());
        checks.due("not down", false, store.down());
        checks.due("the next save", SharedBlockStore.DOWN, store.save());
    }

    /** "and its head with the next number (1 for the first; before, slot 0 has the number 0 and empty files)." */
    private static void numbersFromOneOn(Checks checks) {
        SharedBlockStore store = new SharedBlockStore();
        checks.due("before", 0, store.count(3));
        for (int number = 1; number <= 5; number++) {
            checks.due("save", number, store.save());
            checks.due("count(3)", number, store.count(3));
        }
        store.crashAfter(6);
        store.save();
        checks.due("recover", 5, store.recover());
        checks.due("a number that was not reached comes again", 6, store.save());
    }

    /** "before, slot 0 has the number 0 and empty files": savings that fail leave it so. */
    private static void beforeTheFirst(Checks checks) {
        SharedBlockStore store = new SharedBlockStore();
        for (int done = 0; done < 7; done++) {
            for (int file = 0; file < 6; file++) {
                Stores.append(store, file, done);
            }
            store.crashAfter(done);
            checks.due("the first saving fails", SharedBlockStore.DOWN, store.save());
            checks.due("recover", 0, store.recover());
            checks.dueText("files", "|||||", files(store));
            checks.due("used", 0, store.count(0));
        }
        checks.due("the first saving", 1, store.save());
    }

    private static String files(SharedBlockStore store) {
        StringBuilder text = new StringBuilder(Stores.row(store, 0));
        for (int file = 1; file < 6; file++) {
            text.append("|").append(Stores.row(store, file));
        }
        return text.toString();
    }

    /** "To SAVE writes the rows of files 0 .. 5 into a slot": of each of them, empty and full ones too. */
    private static void rowsOfAllFiles(Checks checks) {
        SharedBlockStore store = new SharedBlockStore();
        Stores.fill(store, 0, 0, 12);
        Stores.append(store, 1, 5);
        Stores.append(store, 3, 20);
        Stores.append(store, 3, 20);
        Stores.append(store, 5, 21);
        String saved = files(store);
        checks.dueText("files", "0 1 2 3 4 5 6 7 8 9 10 11|5||12 12||13", saved);
        store.save();
        for (int file = 0; file < 6; file++) {
            store.cut(file, 0);
            Stores.append(store, file, 30 + file);
        }
        store.recover();
        checks.dueText("files as they were saved", saved, files(store));
        checks.due("word 3 of block 13", 21, store.word(5, 0, 3));
    }

    /** "slot 1 first, then the other one than last time": each saving can be gone back to until the next is whole. */
    private static void slotsInTurn(Checks checks) {
        for (int done = 0; done < 7; done++) {
            SharedBlockStore store = new SharedBlockStore();
            String before = files(store);
            for (int number = 1; number <= 4; number++) {
                Stores.append(store, number % 2 * 5, number);
                store.crashAfter(done);
                checks.due("a saving that fails", SharedBlockStore.DOWN, store.save());
                checks.due("recover", number - 1, store.recover());
                checks.dueText("files", before, files(store));
                Stores.append(store, number % 2 * 5, number);
                checks.due("a saving", number, store.save());
                before = files(store);
            }
        }
    }

    /** "then the other one than last time": savings that fail in a row never write over what was saved. */
    private static void slotsInTurnBehindFailures(Checks checks) {
        for (int failures = 1; failures <= 4; failures++) {
            SharedBlockStore store = new SharedBlockStore();
            for (int number = 1; number <= 3; number++) {
                Stores.append(store, 1, number);
                checks.due("save", number, store.save());
                String saved = files(store);
                for (int i = 0; i < failures; i++) {
                    store.cut(1, 0);
                    Stores.append(store, 0, 50 + i);
                    store.crashAfter(6);
                    checks.due("failing save", SharedBlockStore.DOWN, store.save());
                    checks.due("recover", number, store.recover());
                    checks.dueText("files", saved, files(store));
                }
            }
        }
    }

    /** "With the head the store is SAVED": not with the six rows before it. */
    private static void savedWithTheHead(Checks checks) {
        SharedBlockStore store = new SharedBlockStore();
        Stores.append(store, 0, 1);
        store.crashAfter(6);
        checks.due("without the head", SharedBlockStore.DOWN, store.save());
        checks.due("recover", 0, store.recover());
        checks.due("blocks", 0, store.blocks(0));
        Stores.append(store, 0, 1);
        store.crashAfter(7);
        checks.due("with the head", 1, store.save());
        checks.due("recover then", 1, store.recover());
        checks.due("blocks then", 1, store.blocks(0));
    }

    /** "blocks that are free by that are taken out, by rising numbers." Not those of a saving that fails. */
    private static void givesBackWithTheHead(Checks checks) {
        SharedBlockStore store = new SharedBlockStore();
        // Homes 62, 62, 62, 62 in the cells 62, 63, 0, 1.
        int[] lasts = {60, 124, 188, 252};
        for (int i = 0; i < lasts.length; i++) {
            Stores.append(store, i, lasts[i]);
        }
        store.save();
        store.crashAfter(6);
        store.cut(0, 0);
        store.save();
        store.recover();
        checks.dueText("cells after a saving that failed", "0 1 2 3 -1", Stores.cells(store, 62, 5));
        store.cut(0, 0);
        store.cut(2, 0);
        checks.dueText("cells before the saving", "0 1 2 3 -1", Stores.cells(store, 62, 5));
        checks.due("save", 2, store.save());
        checks.dueText("cells after it", "1 3 -1 -1 -1", Stores.cells(store, 62, 5));
        checks.due("used", 2, store.count(0));
        for (int file = 0; file < 6; file++) {
            store.cut(file, 0);
        }
        checks.due("save of nothing", 3, store.save());
        checks.dueText("cells then", "-1 -1 -1 -1 -1", Stores.cells(store, 62, 5));
    }
}
