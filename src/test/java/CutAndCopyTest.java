/** Promises 5 and 6. */
final class CutAndCopyTest {
    public static void main(String[] args) {
        Checks checks = new Checks();
        cuts(checks);
        cutsAtBothEnds(checks);
        cutsBlocksThatStayUsed(checks);
        cutRefuses(checks);
        copies(checks);
        copiesEmptyAndFullFiles(checks);
        copiesOntoItself(checks);
        copyRefuses(checks);
        savedBlocksStay(checks);
        takesOutAllThatAreFree(checks);
        checks.end();
    }

    /**
     * "A file's blocks from a number on are gone; those that are free by that are taken out, by rising numbers:
     * how many were."
     */
    private static void cuts(Checks checks) {
        SharedBlockStore store = new SharedBlockStore();
        Stores.fill(store, 0, 0, 5);
        checks.due("cut of the last two", 2, store.cut(0, 3));
        checks.dueText("row", "0 1 2", Stores.row(store, 0));
        checks.due("used", 3, store.count(0));
        checks.due("cut of the rest", 3, store.cut(0, 0));
        checks.due("blocks", 0, store.blocks(0));
        checks.due("used then", 0, store.count(0));
        checks.due("writes", 5, store.writes());
    }

    /** "also if from is below 0 or above how many the file has": 0 and just how many it has are neither. */
    private static void cutsAtBothEnds(Checks checks) {
        SharedBlockStore store = new SharedBlockStore();
        checks.due("cut of an empty file", 0, store.cut(0, 0));
        Stores.fill(store, 0, 0, 12);
        checks.due("cut behind the twelfth", 0, store.cut(0, 12));
        checks.due("blocks", 12, store.blocks(0));
        checks.due("cut of the twelfth", 1, store.cut(0, 11));
        checks.due("cut behind the eleventh", 0, store.cut(0, 11));
        checks.due("cut of all", 11, store.cut(0, 0));
        checks.due("cut of nothing", 0, store.cut(0, 0));
    }

    /** "those that are free by that": not those that this file or another one still has. */
    private static void cutsBlocksThatStayUsed(Checks checks) {
        SharedBlockStore store = new SharedBlockStore();
        Stores.fill(store, 0, 0, 5);
        Stores.append(store, 0, 1);
        Stores.append(store, 1, 2);
        checks.due("cut of a block that the file has twice", 0, store.cut(0, 5));
        checks.due("cut of 2, 3, 4, with 2 elsewhere", 2, store.cut(0, 2));
        checks.dueText("row 1", "2", Stores.row(store, 1));
        checks.due("used", 3, store.count(0));
        checks.due("cut of the last that has it", 1, store.cut(1, 0));
        Stores.append(store, 1, 60);
        Stores.append(store, 1, 60);
        Stores.append(store, 1, 60);
        checks.due("a block that was there three times is one", 1, store.cut(1, 0));
    }

    /** "IllegalState; IndexOutOfBounds, also if from is below 0 or above how many the file has." */
    private static void cutRefuses(Checks checks) {
        SharedBlockStore store = new SharedBlockStore();
        Stores.fill(store, 0, 0, 2);
        checks.outOfBounds("from -1", () -> store.cut(0, -1));
        checks.outOfBounds("from 3 of 2", () -> store.cut(0, 3));
        checks.outOfBounds("from 1 of 0", () -> store.cut(1, 1));
        checks.outOfBounds("from the least int", () -> store.cut(0, Integer.MIN_VALUE));
        checks.outOfBounds("from the greatest int", () -> store.cut(0, Integer.MAX_VALUE));
        checks.outOfBounds("file -1", () -> store.cut(-1, 0));
        checks.outOfBounds("file 6", () -> store.cut(6, 0));
        checks.due("blocks", 2, store.blocks(0));
        SharedBlockStore down = Stores.down();
        checks.illegalState("cut when down", () -> down.cut(0, 0));
        checks.illegalState("down wins", () -> down.cut(6, -1));
    }

    /**
     * "A file becomes as another one is; blocks that are free by that are taken out, by rising numbers: how many
     * were."
     */
    private static void copies(Checks checks) {
        SharedBlockStore store = new SharedBlockStore();
        Stores.fill(store, 0, 0, 3);
        Stores.append(store, 1, 2);
        Stores.append(store, 1, 20);
        Stores.append(store, 1, 20);
        Stores.append(store, 1, 21);
        checks.due("copy over 3 and 4", 2, store.copy(1, 0));
        checks.dueText("row 1", "0 1 2", Stores.row(store, 1));
        checks.dueText("row 0", "0 1 2", Stores.row(store, 0));
        checks.due("used", 3, store.count(0));
        checks.due("cut of the first", 0, store.cut(0, 1));
        checks.dueText("the copy is apart", "0 1 2", Stores.row(store, 1));
        checks.due("writes", 5, store.writes());
    }

    /** "A file becomes as another one is": longer or shorter than it was, empty or full. */
    private static void copiesEmptyAndFullFiles(Checks checks) {
        SharedBlockStore store = new SharedBlockStore();
        Stores.fill(store, 0, 0, 12);
        checks.due("copy of a full file to an empty one", 0, store.copy(5, 0));
        checks.dueText("row 5", Stores.row(store, 0), Stores.row(store, 5));
        checks.due("copy of a full file to a full one", 0, store.copy(5, 0));
        checks.due("blocks", 12, store.blocks(5));
        checks.due("copy of an empty file to a full one", 0, store.copy(0, 3));
        checks.due("copy of an empty file to the last that has them", 12, store.copy(5, 3));
        checks.due("blocks then", 0, store.blocks(5));
        checks.due("used", 0, store.count(0));
        checks.due("copy of an empty file to an empty one", 0, store.copy(5, 3));
    }

    /** "A file becomes as another one is": if that is the file itself, it stays. */
    private static void copiesOntoItself(Checks checks) {
        SharedBlockStore store = new SharedBlockStore();
        Stores.fill(store, 1, 60, 2);
        Stores.append(store, 1, 60);
        checks.due("copy onto itself", 0, store.copy(1, 1));
        checks.dueText("row 1", "0 1 0", Stores.row(store, 1));
        checks.dueText("cells", "0 1", Stores.cells(store, 62, 2));
        checks.due("copy of an empty file onto itself", 0, store.copy(2, 2));
    }

    /** "how many were. IllegalState; IndexOutOfBounds." */
    private static void copyRefuses(Checks checks) {
        SharedBlockStore store = new SharedBlockStore();
        Stores.append(store, 0, 1);
        checks.outOfBounds("file 6", () -> store.copy(6, 0));
        checks.outOfBounds("file -1", () -> store.copy(-1, 0));
        checks.outOfBounds("from 6", () -> store.copy(0, 6));
        checks.outOfBounds("from -1", () -> store.copy(0, -1));
        checks.outOfBounds("neither", () -> store.copy(7, 7));
        checks.due("blocks", 1, store.blocks(0));
        SharedBlockStore down = Stores.down();
        checks.illegalState("copy when down", () -> down.copy(0, 1));
        checks.illegalState("down wins", () -> down.copy(6, 6));
    }

    /** "blocks that are free by that are taken out": not those that were saved last. */
    private static void savedBlocksStay(Checks checks) {
        SharedBlockStore store = new SharedBlockStore();
        Stores.fill(store, 0, 0, 2);
        store.save();
        Stores.append(store, 0, 9);
        checks.due("cut of saved and unsaved ones", 1, store.cut(0, 0));
        checks.due("used", 2, store.count(0));
        Stores.append(store, 0, 0);
        Stores.append(store, 0, 8);
        checks.due("copy over saved and unsaved ones", 1, store.copy(0, 1));
        checks.due("used then", 2, store.count(0));
    }

    /** "are taken out, by rising numbers", each out of the same run of cells over the end. */
    private static void takesOutAllThatAreFree(Checks checks) {
        SharedBlockStore store = new SharedBlockStore();
        // Homes 62, 62, 63, 62, 0, 63: blocks 0 .. 5 lie in the cells 62, 63, 0, 1, 2, 3.
        int[] lasts = {60, 124, 61, 188, 62, 125};
        for (int i = 0; i < lasts.length; i++) {
            Stores.append(store, i % 2, lasts[i]);
        }
        checks.dueText("cells", "0 1 2 3 4 5 -1", Stores.cells(store, 62, 7));
        // The gate let blocks 3 and 5 by the bits of those before them: four cells and five.
        checks.due("probes of appending", 9, store.probes());
        checks.due("cut of 0, 2, 4", 3, store.cut(0, 0));
        checks.dueText("cells after it", "1 3 5 -1 -1 -1 -1", Stores.cells(store, 62, 7));
        checks.due("copy over 1, 3, 5", 3, store.copy(1, 2));
        checks.dueText("cells at last", "-1 -1 -1 -1 -1 -1 -1", Stores.cells(store, 62, 7));
        checks.due("no probes of taking out", 9, store.probes());
    }
}
