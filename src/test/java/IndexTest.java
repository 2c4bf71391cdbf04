/** Promises 10, 11, 12, 14 and 19. Homes and bits were reckoned apart from the program. */
final class IndexTest {
    public static void main(String[] args) {
        Checks checks = new Checks();
        finds(checks);
        findsWithoutTheGate(checks);
        findsWhatIsOnlySaved(checks);
        findRefusesAShortStage(checks);
        passes(checks);
        passesWithoutABlock(checks);
        passesRefusesAShortStage(checks);
        cells(checks);
        cellsThatAreNone(checks);
        refreshes(checks);
        probes(checks);
        refuseWhenDown(checks);
        checks.end();
    }

    /** "Looks the stage up, without the gate: its block; NONE if there is none." */
    private static void finds(Checks checks) {
        SharedBlockStore store = new SharedBlockStore();
        Stores.feed(store, 1, 2, 3, 60);
        checks.due("find in an empty index", SharedBlockStore.NONE, store.find());
        store.append(0);
        Stores.append(store, 0, 124);
        Stores.append(store, 0, 188);
        Stores.feed(store, 1, 2, 3, 188);
        checks.due("find behind 63", 2, store.find());
        checks.due("find again", 2, store.find());
        checks.due("the stage stays", 4, store.drop());
        store.cut(0, 2);
        Stores.feed(store, 1, 2, 3, 188);
        checks.due("find of what is gone, though the disk has it", SharedBlockStore.NONE, store.find());
    }

    /** "without the gate": the cells are gone through though a bit is missing. */
    private static void findsWithoutTheGate(Checks checks) {
        SharedBlockStore store = new SharedBlockStore();
        Stores.append(store, 0, 60);
        Stores.feed(store, 1, 2, 3, 124);
        checks.due("passes", false, store.passes());
        checks.due("find", SharedBlockStore.NONE, store.find());
        checks.due("probes", 2, store.probes());
    }

    /** "NONE if there is none.", but a block that was saved last is one. */
    private static void findsWhatIsOnlySaved(Checks checks) {
        SharedBlockStore store = new SharedBlockStore();
        Stores.append(store, 0, 60);
        store.save();
        store.cut(0, 0);
        Stores.feed(store, 1, 2, 3, 60);
        checks.due("only saved", 0, store.find());
        store.save();
        checks.due("not saved any more", SharedBlockStore.NONE, store.find());
    }

    /** "IllegalState: DOWN, or it has less than four words.", for find. */
    private static void findRefusesAShortStage(Checks checks) {
        SharedBlockStore store = new SharedBlockStore();
        for (int n = 0; n < 4; n++) {
            checks.illegalState("find of " + n + " words", store::find);
            store.feed(n);
        }
        checks.due("no probes", 0, store.probes());
        checks.due("find of four words", SharedBlockStore.NONE, store.find());
    }

    /** "Whether the stage's three bits are set in the gate." */
    private static void passes(Checks checks) {
        SharedBlockStore store = new SharedBlockStore();
        Stores.feed(store, 1, 2, 3, 60);
        checks.due("a gate without bits", false, store.passes());
        store.append(0);
        Stores.feed(store, 1, 2, 3, 60);
        checks.due("a content that was put in", true, store.passes());
        checks.due("the stage stays", 4, store.drop());
        Stores.feed(store, 1, 2, 3, 124);
        checks.due("bits 62, 15, 60", false, store.passes());
        checks.due("no probes", 0, store.probes());
    }

    /** "Whether the stage's three bits are set": by other contents too, or by one that is gone. */
    private static void passesWithoutABlock(Checks checks) {
        SharedBlockStore store = new SharedBlockStore();
        Stores.append(store, 0, 60);
        Stores.feed(store, 1, 0, 33, 28);
        checks.due("a content of the same bits", true, store.passes());
        checks.due("it is not found", SharedBlockStore.NONE, store.find());
        store.drop();
        store.cut(0, 0);
        Stores.feed(store, 1, 2, 3, 60);
        checks.due("a content that is gone", true, store.passes());
        checks.due("nor is that found", SharedBlockStore.NONE, store.find());
        store.refresh();
        checks.due("a new gate", false, store.passes());
    }

    /** "IllegalState: DOWN, or it has less than four words.", for passes. */
    private static void passesRefusesAShortStage(Checks checks) {
        SharedBlockStore store = new SharedBlockStore();
        for (int n = 0; n < 4; n++) {
            checks.illegalState("passes of " + n + " words", store::passes);
            store.feed(n);
        }
        checks.due("passes of four words", false, store.passes());
    }

    /** "The block in a cell of the index; NONE if it is empty" */
    private static void cells(Checks checks) {
        SharedBlockStore store = new SharedBlockStore();
        Stores.append(store, 0, 61);
        Stores.append(store, 0, 125);
        Stores.append(store, 0, 62);
        checks.dueText("cells 62 .. 3", "-1 0 1 2 -1 -1", Stores.cells(store, 62, 6));
    }

    /** "or there is none such.": below 0 or above 63, though the last and the first cell have a block. */
    private static void cellsThatAreNone(Checks checks) {
        SharedBlockStore store = new SharedBlockStore();
        Stores.append(store, 0, 61);
        Stores.append(store, 0, 62);
        checks.due("cell 63", 0, store.cell(63));
        checks.due("cell 0", 1, store.cell(0));
        for (int c : new int[] {-1, 64, -64, 127, 128, Integer.MIN_VALUE, Integer.MAX_VALUE}) {
            checks.due("cell " + c, SharedBlockStore.NONE, store.cell(c));
        }
    }

    /** "The index is MADE ANEW." */
    private static void refreshes(Checks checks) {
        SharedBlockStore store = new SharedBlockStore();
        Stores.append(store, 0, 60);
        Stores.append(store, 1, 124);
        Stores.append(store, 2, 188);
        store.cut(0, 0);
        checks.due("block 0 again", 0, Stores.append(store, 3, 252));
        checks.dueText("cells as they came", "1 2 0 -1", Stores.cells(store, 62, 4));
        checks.due("bits of four contents", 6, store.count(2));
        Stores.feed(store, 5, 6, 7, 8);
        int probes = store.probes();
        int writes = store.writes();
        store.refresh();
        checks.dueText("cells by rising numbers", "0 1 2 -1", Stores.cells(store, 62, 4));
        checks.due("bits 62, 60, 47, 15, 63", 5, store.count(2));
        checks.due("the stage stays", 4, store.drop());
        checks.due("no probes", probes, store.probes());
        checks.due("no writes", writes, store.writes());
        store.save();
        store.cut(1, 0);
        store.refresh();
        checks.dueText("saved blocks are in it too", "0 1 2 -1", Stores.cells(store, 62, 4));
        Stores.feed(store, 1, 2, 3, 60);
        checks.due("the gate forgot what is gone", false, store.passes());
    }

    /** "How many probes there were.": of find and append, also of an append that answers NONE or DOWN. */
    private static void probes(Checks checks) {
        SharedBlockStore store = new SharedBlockStore();
        checks.due("probes of a new store", 0, store.probes());
        Stores.fill(store, 0, 0, 40);
        int before = store.probes();
        Stores.append(store, 4, 39);
        checks.due("a known content at home", before + 1, store.probes());
        store.cut(4, 0);
        store.copy(4, 5);
        store.refresh();
        store.save();
        checks.due("no probes of others", before + 1, store.probes());
        // The bits of 1, 2, 3, 256 are those of 1, 2, 3, 0; cells 2 .. 41 have the forty blocks.
        checks.due("no free block", SharedBlockStore.NONE, Stores.append(store, 4, 256));
        checks.due("forty blocks and an empty cell", before + 42, store.probes());
        store.drop();
        store.cut(3, 3);
        store.save();
        store.crashAfter(0);
        checks.due("a lost write", SharedBlockStore.DOWN, Stores.append(store, 4, 256));
        checks.due("39 blocks and an empty cell", before + 82, store.probes());
        store.recover();
        checks.due("no probes of recover", before + 82, store.probes());
    }

    /** "IllegalState." of find, passes, cell and refresh; probes alone answers. */
    private static void refuseWhenDown(Checks checks) {
        SharedBlockStore down = Stores.downWithFullStage();
        checks.illegalState("find when down", down::find);
        checks.illegalState("passes when down", down::passes);
        checks.illegalState("cell when down", () -> down.cell(0));
        checks.illegalState("cell 64 when down", () -> down.cell(64));
        checks.illegalState("refresh when down", down::refresh);
        checks.due("probes when down", 0, down.probes());
    }
}
