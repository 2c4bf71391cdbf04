/** Promises 5 and 6. */
final class CutAndCopyTest {
    public static void main(String[] args) {
        Checks checks = new Checks();
        cuts(checks);
        cutRefuses(checks);
        copies(checks);
        copyRefuses(checks);
        savedBlocksStay(checks);
        takesOutByRisingNumbers(checks);
        checks.end();
    }

    private static void cuts(Checks checks) {
        SharedBlockStore store = new SharedBlockStore();
        Stores.fill(store, 0, 0, 5);
        Stores.append(store, 0, 1);
        Stores.append(store, 1, 2);
        checks.due("cut behind the last", 0, store.cut(0, 6));
        checks.due("cut of a block that the file has twice", 0, store.cut(0, 5));
        checks.due("cut of 2, 3, 4, with 2 elsewhere", 2, store.cut(0, 2));
        checks.dueText("row 0", "0 1", Stores.row(store, 0));
        checks.dueText("row 1", "2", Stores.row(store, 1));
        checks.due("used", 3, store.count(0));
        checks.due("cut of the rest", 2, store.cut(0, 0));
        checks.due("cut of an empty file", 0, store.cut(0, 0));
        checks.due("cut of the last holder", 1, store.cut(1, 0));
        checks.due("used at last", 0, store.count(0));
        checks.due("writes", 5, store.writes());
    }

    private static void cutRefuses(Checks checks) {
        SharedBlockStore store = new SharedBlockStore();
        Stores.fill(store, 0, 0, 2);
        checks.outOfBounds("from -1", () -> store.cut(0, -1));
        checks.outOfBounds("from 3 of 2", () -> store.cut(0, 3));
        checks.outOfBounds("from the greatest int", () -> store.cut(0, Integer.MAX_VALUE));
        checks.outOfBounds("file -1", () -> store.cut(-1, 0));
        checks.outOfBounds("file 6", () -> store.cut(6, 0));
        checks.due("blocks", 2, store.blocks(0));
        SharedBlockStore down = Stores.down();
        checks.illegalState("cut when down", () -> down.cut(0, 0));
        checks.illegalState("down wins", () -> down.cut(6, -1));
    }

    private static void copies(Checks checks) {
        SharedBlockStore store = new SharedBlockStore();
        Stores.fill(store, 0, 0, 3);
        Stores.append(store, 1, 2);
        Stores.append(store, 1, 20);
        Stores.append(store, 1, 20);
        Stores.append(store, 1, 21);
        checks.due("copy onto itself", 0, store.copy(1, 1));
        checks.dueText("row 1", "2 3 3 4", Stores.row(store, 1));
        checks.due("copy over 3 and 4", 2, store.copy(1, 0));
        checks.dueText("row 1 then", "0 1 2", Stores.row(store, 1));
        checks.dueText("row 0 then", "0 1 2", Stores.row(store, 0));
        checks.due("cut of the first", 0, store.cut(0, 1));
        checks.dueText("the copy is apart", "0 1 2", Stores.row(store, 1));
        checks.due("copy of an empty file", 2, store.copy(1, 5));
        checks.due("blocks of the copy", 0, store.blocks(1));
        checks.due("used", 1, store.count(0));
        checks.due("writes", 5, store.writes());
    }

    private static void copyRefuses(Checks checks) {
        SharedBlockStore store = new SharedBlockStore();
        Stores.append(store, 0, 1);
        checks.outOfBounds("file 6", () -> store.copy(6, 0));
        checks.outOfBounds("file -1", () -> store.copy(-1, 0));
        checks.outOfBounds("from 6", () -> store.copy(0, 6));
        checks.outOfBounds("from -1", () -> store.copy(0, -1));
        checks.outOfBounds("neither", () -> store.copy(7, 7));
        checks.due("blocks", 1, store.blocks(0));
        SharedBlockStore down = Stores.down();
        checks.illegalState("copy when down", () -> down.copy(0, 1));
        checks.illegalState("down wins", () -> down.copy(6, 6));
    }

    private static void savedBlocksStay(Checks checks) {
        SharedBlockStore store = new SharedBlockStore();
        Stores.fill(store, 0, 0, 2);
        store.save();
        Stores.append(store, 0, 9);
        checks.due("cut of saved and unsaved ones", 1, store.cut(0, 0));
        checks.due("used", 2, store.count(0));
        Stores.append(store, 0, 0);
        Stores.append(store, 0, 8);
        checks.due("copy over saved and unsaved ones", 1, store.copy(0, 1));
        checks.due("used then", 2, store.count(0));
    }

    private static void takesOutByRisingNumbers(Checks checks) {
        SharedBlockStore store = new SharedBlockStore();
        // Homes 62, 62, 63, 62, 0, 63: blocks 0 .. 5 lie in the cells 62, 63, 0, 1, 2, 3.
        int[] lasts = {60, 124, 61, 188, 62, 125};
        for (int i = 0; i < lasts.length; i++) {
            Stores.append(store, i % 2, lasts[i]);
        }
        checks.dueText("cells", "0 1 2 3 4 5 -1", Stores.cells(store, 62, 7));
        // The gate let blocks 3 and 5 by the bits of those before them: four cells and five.
        checks.due("probes of appending", 9, store.probes());
        checks.due("cut of 0, 2, 4", 3, store.cut(0, 0));
        checks.dueText("cells after it", "1 3 5 -1 -1 -1 -1", Stores.cells(store, 62, 7));
        checks.due("copy over 1, 3, 5", 3, store.copy(1, 2));
        checks.dueText("cells at last", "-1 -1 -1 -1 -1 -1 -1", Stores.cells(store, 62, 7));
        checks.due("no probes of taking out", 9, store.probes());
    }
}
