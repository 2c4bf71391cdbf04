/** Terms: how many blocks, files and words there are, and which blocks are used. */
final class DiskTermsTest {
    public static void main(String[] args) {
        Checks checks = new Checks();
        fortyBlocks(checks);
        sixFiles(checks);
        twelveBlocks(checks);
        oneBlockEverywhere(checks);
        usedOrFree(checks);
        savingBeforeTheLastHoldsNothing(checks);
        differentContents(checks);
        usedAndNoOthersAreInTheIndex(checks);
        checks.end();
    }

    /** "The disk has BLOCKS 0 .. 39 of four words, and two SLOTS." For the slots see SaveTermsTest. */
    private static void fortyBlocks(Checks checks) {
        SharedBlockStore store = new SharedBlockStore();
        for (int i = 0; i < 40; i++) {
            checks.due("content " + i, i, Stores.append(store, i / 12, i));
        }
        checks.due("used", 40, store.count(0));
        for (int i = 0; i < 3; i++) {
            checks.due("word of block 39", i + 1, store.word(3, 3, i));
        }
        checks.due("last word of block 39", 39, store.word(3, 3, 3));
        checks.due("last word of block 38", 38, store.word(3, 2, 3));
        checks.due("last word of block 0", 0, store.word(0, 0, 3));
        checks.due("content 40", SharedBlockStore.NONE, Stores.append(store, 4, 40));
        checks.due("cut of block 39", 1, store.cut(3, 3));
        checks.due("content 40 then", 39, store.append(4));
    }

    /** "FILES are 0 .. 5": the first and the last as good as the others; for -1 and 6 see RefusedCallsTest. */
    private static void sixFiles(Checks checks) {
        SharedBlockStore store = new SharedBlockStore();
        for (int file = 0; file < 6; file++) {
            checks.due("append", file, Stores.append(store, file, 10 + file));
        }
        for (int file = 0; file < 6; file++) {
            checks.due("blocks", 1, store.blocks(file));
            checks.due("block", file, store.block(file, 0));
            checks.due("word", 10 + file, store.word(file, 0, 3));
        }
        checks.due("copy of the last to the first", 1, store.copy(0, 5));
        checks.due("cut of the last", 0, store.cut(5, 0));
        checks.due("cut of the first", 1, store.cut(0, 0));
    }

    /** "each is a row of at most 12 blocks" */
    private static void twelveBlocks(Checks checks) {
        SharedBlockStore store = new SharedBlockStore();
        for (int i = 0; i < 12; i++) {
            checks.due("append", i, Stores.append(store, 5, i));
        }
        checks.due("blocks", 12, store.blocks(5));
        checks.dueText("row", "0 1 2 3 4 5 6 7 8 9 10 11", Stores.row(store, 5));
        Stores.feed(store, 1, 2, 3, 0);
        checks.illegalState("a 13th block, though it is known", () -> store.append(5));
        checks.due("blocks then", 12, store.blocks(5));
        checks.due("cut of the 12th", 1, store.cut(5, 11));
        checks.due("a 12th block again", 0, store.append(5));
        checks.due("copy of a full file", 0, store.copy(0, 5));
        checks.due("blocks of the copy", 12, store.blocks(0));
        Stores.feed(store, 1, 2, 3, 0);
        checks.illegalState("a 13th block of the copy", () -> store.append(0));
    }

    /** "one of which may be in it, and in others, several times." */
    private static void oneBlockEverywhere(Checks checks) {
        SharedBlockStore store = new SharedBlockStore();
        for (int i = 0; i < 72; i++) {
            checks.due("append", 0, Stores.append(store, i / 12, 7));
        }
        checks.due("used", 1, store.count(0));
        checks.due("writes", 1, store.writes());
        for (int file = 0; file < 5; file++) {
            checks.due("cut of a file", 0, store.cut(file, 0));
        }
        checks.due("cut of eleven of the last twelve", 0, store.cut(5, 1));
        checks.due("cut of the last one", 1, store.cut(5, 0));
        checks.due("used then", 0, store.count(0));
    }

    /** "A block is USED if some file has it, or had it when the store was SAVED last; otherwise it is FREE." */
    private static void usedOrFree(Checks checks) {
        SharedBlockStore store = new SharedBlockStore();
        Stores.fill(store, 0, 0, 3);
        store.save();
        Stores.fill(store, 1, 3, 2);
        checks.due("had, saved, or both", 5, store.count(0));
        checks.due("cut of one that only a file has", 1, store.cut(1, 1));
        checks.due("cut of one that was saved", 0, store.cut(0, 2));
        checks.due("used", 4, store.count(0));
        checks.due("the block that is free", 4, Stores.append(store, 2, 50));
        checks.due("the next one", 5, Stores.append(store, 2, 51));
    }

    /** "or had it when the store was SAVED last": neither what a saving before had nor what a lost one would have. */
    private static void savingBeforeTheLastHoldsNothing(Checks checks) {
        SharedBlockStore store = new SharedBlockStore();
        Stores.append(store, 0, 0);
        store.save();
        store.cut(0, 0);
        checks.due("held by the saving", 1, store.count(0));
        Stores.append(store, 0, 1);
        store.save();
        checks.due("held by the next saving", 1, store.count(0));
        checks.due("free again", 0, Stores.append(store, 1, 2));
        store.crashAfter(6);
        checks.due("a saving without its head", SharedBlockStore.DOWN, store.save());
        store.recover();
        checks.due("not held by the lost saving", 1, store.count(0));
        checks.due("free once more", 0, Stores.append(store, 1, 3));
    }

    /** "All used blocks have different contents" */
    private static void differentContents(Checks checks) {
        SharedBlockStore store = new SharedBlockStore();
        Stores.append(store, 0, 5);
        store.save();
        store.cut(0, 0);
        checks.due("a content that is only saved", 0, Stores.append(store, 1, 5));
        store.cut(1, 0);
        store.refresh();
        checks.due("that behind a new index", 0, Stores.append(store, 1, 5));
        store.recover();
        checks.due("that behind a recovering", 0, Stores.append(store, 1, 5));
        checks.due("used", 1, store.count(0));
        checks.due("writes", 8, store.writes());
    }

    /** "are in the INDEX, and no others are." */
    private static void usedAndNoOthersAreInTheIndex(Checks checks) {
        SharedBlockStore store = new SharedBlockStore();
        Stores.fill(store, 0, 60, 3);
        Stores.append(store, 1, 61);
        checks.dueText("after appending", "[0, 1, 2]", Stores.indexed(store));
        store.save();
        Stores.append(store, 2, 124);
        store.cut(0, 0);
        checks.dueText("after cutting what is saved", "[0, 1, 2, 3]", Stores.indexed(store));
        store.cut(2, 0);
        checks.dueText("after cutting what is not", "[0, 1, 2]", Stores.indexed(store));
        store.save();
        checks.dueText("after saving", "[1]", Stores.indexed(store));
        Stores.append(store, 4, 188);
        store.copy(4, 1);
        checks.dueText("after copying", "[1]", Stores.indexed(store));
        Stores.append(store, 4, 252);
        store.recover();
        checks.dueText("after recovering", "[1]", Stores.indexed(store));
    }
}
