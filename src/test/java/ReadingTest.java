/** Promises 7, 8 and 9. */
final class ReadingTest {
    public static void main(String[] args) {
        Checks checks = new Checks();
        SharedBlockStore store = new SharedBlockStore();
        Stores.append(store, 0, 10, 20, 30, 40);
        Stores.append(store, 5, -1, -2, -3, -4);
        Stores.append(store, 5, 10, 20, 30, 40);
        blocks(checks, store);
        block(checks, store);
        word(checks, store);
        refuseWhenDown(checks);
        checks.due("probes of reading", 1, store.probes());
        checks.end();
    }

    private static void blocks(Checks checks, SharedBlockStore store) {
        checks.due("blocks(0)", 1, store.blocks(0));
        checks.due("blocks(1)", 0, store.blocks(1));
        checks.due("blocks(5)", 2, store.blocks(5));
        checks.outOfBounds("blocks(-1)", () -> store.blocks(-1));
        checks.outOfBounds("blocks(6)", () -> store.blocks(6));
        checks.outOfBounds("blocks of the least int", () -> store.blocks(Integer.MIN_VALUE));
    }

    private static void block(Checks checks, SharedBlockStore store) {
        checks.due("block(0, 0)", 0, store.block(0, 0));
        checks.due("block(5, 0)", 1, store.block(5, 0));
        checks.due("block(5, 1)", 0, store.block(5, 1));
        checks.outOfBounds("block(5, 2)", () -> store.block(5, 2));
        checks.outOfBounds("block(5, -1)", () -> store.block(5, -1));
        checks.outOfBounds("block(1, 0)", () -> store.block(1, 0));
        checks.outOfBounds("block(6, 0)", () -> store.block(6, 0));
        checks.outOfBounds("block(-1, 0)", () -> store.block(-1, 0));
    }

    private static void word(Checks checks, SharedBlockStore store) {
        for (int i = 0; i < 4; i++) {
            checks.due("word of file 0", 10 * i + 10, store.word(0, 0, i));
            checks.due("word of file 5", -1 - i, store.word(5, 0, i));
            checks.due("word of the shared block", 10 * i + 10, store.word(5, 1, i));
        }
        checks.outOfBounds("word(0, 0, 4)", () -> store.word(0, 0, 4));
        checks.outOfBounds("word(0, 0, -1)", () -> store.word(0, 0, -1));
        checks.outOfBounds("word(0, 1, 0)", () -> store.word(0, 1, 0));
        checks.outOfBounds("word(5, -1, 0)", () -> store.word(5, -1, 0));
        checks.outOfBounds("word(6, 0, 0)", () -> store.word(6, 0, 0));
        checks.outOfBounds("word(-1, 0, 0)", () -> store.word(-1, 0, 0));
    }

    private static void refuseWhenDown(Checks checks) {
        SharedBlockStore down = Stores.down();
        checks.illegalState("blocks when down", () -> down.blocks(6));
        checks.illegalState("block when down", () -> down.block(6, 0));
        checks.illegalState("word when down", () -> down.word(0, 0, 9));
    }
}
