/** Promises 7, 8 and 9. */
final class ReadingTest {
    public static void main(String[] args) {
        Checks checks = new Checks();
        SharedBlockStore store = new SharedBlockStore();
        Stores.append(store, 0, 10, 20, 30, 40);
        Stores.append(store, 5, -1, -2, -3, -4);
        Stores.append(store, 5, 10, 20, 30, 40);
        blocks(checks, store);
        block(checks, store);
        word(checks, store);
        wordsOfAFullFile(checks);
        wordsOfWrittenAgain(checks);
        refuseNoSuchFile(checks, store);
        refuseNoSuchBlock(checks, store);
        refuseNoSuchWord(checks, store);
        refuseWhenDown(checks);
        checks.due("probes of reading", 1, store.probes());
        checks.end();
    }

    /** "How many blocks a file has." From none to twelve. */
    private static void blocks(Checks checks, SharedBlockStore store) {
        checks.due("blocks(0)", 1, store.blocks(0));
        checks.due("blocks(1)", 0, store.blocks(1));
        checks.due("blocks(5)", 2, store.blocks(5));
        SharedBlockStore growing = new SharedBlockStore();
        for (int n = 1; n <= 12; n++) {
            Stores.append(growing, 4, n % 3);
            checks.due("blocks", n, growing.blocks(4));
        }
    }

    /** "The number on the disk of a file's block b." */
    private static void block(Checks checks, SharedBlockStore store) {
        checks.due("block(0, 0)", 0, store.block(0, 0));
        checks.due("block(5, 0)", 1, store.block(5, 0));
        checks.due("block(5, 1)", 0, store.block(5, 1));
    }

    /** "Word i of a file's block b." */
    private static void word(Checks checks, SharedBlockStore store) {
        for (int i = 0; i < 4; i++) {
            checks.due("word of file 0", 10 * i + 10, store.word(0, 0, i));
            checks.due("word of file 5", -1 - i, store.word(5, 0, i));
            checks.due("word of the shared block", 10 * i + 10, store.word(5, 1, i));
        }
    }

    /** "Word i of a file's block b.", up to the last word of the last block of the last file. */
    private static void wordsOfAFullFile(Checks checks) {
        SharedBlockStore store = new SharedBlockStore();
        for (int b = 0; b < 12; b++) {
            Stores.append(store, 5, b, 100 + b, 200 + b, 300 + b);
        }
        for (int b = 0; b < 12; b++) {
            checks.due("block", b, store.block(5, b));
            for (int i = 0; i < 4; i++) {
                checks.due("word", 100 * i + b, store.word(5, b, i));
            }
        }
    }

    /** "Word i of a file's block b.", also when another content was in that block of the disk before. */
    private static void wordsOfWrittenAgain(Checks checks) {
        SharedBlockStore store = new SharedBlockStore();
        Stores.append(store, 0, 1, 2, 3, 4);
        store.cut(0, 0);
        Stores.append(store, 0, 5, 6, 7, 8);
        checks.due("block", 0, store.block(0, 0));
        for (int i = 0; i < 4; i++) {
            checks.due("word", 5 + i, store.word(0, 0, i));
        }
    }

    /** "How many blocks a file has. IllegalState; IndexOutOfBounds.": there is no file -1, nor 6. */
    private static void refuseNoSuchFile(Checks checks, SharedBlockStore store) {
        for (int file : new int[] {-1, 6, Integer.MIN_VALUE, Integer.MAX_VALUE}) {
            checks.outOfBounds("blocks of file " + file, () -> store.blocks(file));
            checks.outOfBounds("block of file " + file, () -> store.block(file, 0));
            checks.outOfBounds("word of file " + file, () -> store.word(file, 0, 0));
        }
    }

    /** "The number on the disk of a file's block b. IllegalState; IndexOutOfBounds.": -1, or as many as it has. */
    private static void refuseNoSuchBlock(Checks checks, SharedBlockStore store) {
        for (int b : new int[] {-1, 2, Integer.MIN_VALUE, Integer.MAX_VALUE}) {
            checks.outOfBounds("block(5, " + b + ")", () -> store.block(5, b));
            checks.outOfBounds("word(5, " + b + ", 0)", () -> store.word(5, b, 0));
        }
        checks.outOfBounds("block of an empty file", () -> store.block(1, 0));
        checks.outOfBounds("word of an empty file", () -> store.word(1, 0, 0));
        checks.outOfBounds("block(0, 1), though file 5 has one", () -> store.block(0, 1));
        SharedBlockStore cut = new SharedBlockStore();
        Stores.fill(cut, 0, 0, 2);
        cut.cut(0, 1);
        checks.outOfBounds("a block that was cut", () -> cut.block(0, 1));
        checks.outOfBounds("a word that was cut", () -> cut.word(0, 1, 0));
    }

    /** "Word i of a file's block b. IllegalState; IndexOutOfBounds.": there is no word -1, nor 4. */
    private static void refuseNoSuchWord(Checks checks, SharedBlockStore store) {
        for (int i : new int[] {-1, 4, Integer.MIN_VALUE, Integer.MAX_VALUE}) {
            checks.outOfBounds("word(0, 0, " + i + ")", () -> store.word(0, 0, i));
        }
        checks.outOfBounds("word 4, though a block follows", () -> store.word(5, 0, 4));
    }

    /** "IllegalState; IndexOutOfBounds.": DOWN comes first. */
    private static void refuseWhenDown(Checks checks) {
        SharedBlockStore down = Stores.down();
        checks.illegalState("blocks when down", () -> down.blocks(0));
        checks.illegalState("blocks(6) when down", () -> down.blocks(6));
        checks.illegalState("block when down", () -> down.block(6, 0));
        checks.illegalState("word when down", () -> down.word(0, 0, 9));
    }
}
