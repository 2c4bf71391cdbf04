/** Terms: the bits of the gate, and the index made anew. Bits were reckoned apart from the program. */
final class GateTermsTest {
    public static void main(String[] args) {
        Checks checks = new Checks();
        sixtyFourBits(checks);
        threeBits(checks);
        eachBitCounts(checks);
        bitsThatFallTogether(checks);
        highBits(checks);
        setByPuttingInAlone(checks);
        clearedOnlyByMakingAnew(checks);
        madeAnewWithNothing(checks);
        madeAnewByRisingNumbers(checks);
        madeAnewWithAll(checks);
        checks.end();
    }

    /** "The GATE are 64 bits." The contents 1, 2, 3, 0 .. 61 set them all, one after the other. */
    private static void sixtyFourBits(Checks checks) {
        SharedBlockStore store = new SharedBlockStore();
        for (int last = 0; last < 61; last++) {
            Stores.append(store, 0, last);
            store.cut(0, 0);
        }
        checks.due("bits but one", 63, store.count(2));
        Stores.append(store, 0, 61);
        checks.due("all bits", 64, store.count(2));
        Stores.feed(store, -5, 99, 1 << 20, 3);
        checks.due("passes of any content", true, store.passes());
        store.append(1);
        checks.due("all bits still", 64, store.count(2));
    }

    /** "Those of a content with fingerprint f: f & 63, f >> 2, (w0 ^ w1 ^ w2 ^ w3) & 63." */
    private static void threeBits(Checks checks) {
        SharedBlockStore store = new SharedBlockStore();
        Stores.append(store, 0, 60);
        checks.due("bits 62, 31, 60", 3, store.count(2));
        Stores.append(store, 0, 61);
        checks.due("bits 63, 31, 61", 5, store.count(2));
        Stores.append(store, 0, 62);
        checks.due("bits 0, 16, 62", 7, store.count(2));
        Stores.append(store, 0, -1, -2, -3, -4);
        checks.due("bits 36, 9, 0", 9, store.count(2));
    }

    /** "if its three bits are set in the gate": one that is missing is enough to stop a content. */
    private static void eachBitCounts(Checks checks) {
        SharedBlockStore store = new SharedBlockStore();
        Stores.append(store, 0, 60);
        duePasses(checks, store, "bits 62, 31, 60", true, 1, 0, 33, 28);
        duePasses(checks, store, "f & 63 is 63", false, 0, 0, 2, 62);
        duePasses(checks, store, "f & 63 is 61", false, 0, 0, 63, 3);
        duePasses(checks, store, "f >> 2 is 15", false, 1, 2, 3, 124);
        duePasses(checks, store, "f >> 2 is 47", false, 1, 0, 5, 56);
        duePasses(checks, store, "the words give 33", false, 0, 0, 1, 32);
        duePasses(checks, store, "the words give 61", false, 0, 0, 2, 63);
    }

    private static void duePasses(
        Checks checks, SharedBlockStore store, String what, boolean want, int w0, int w1, int w2, int w3) {
        Stores.feed(store, w0, w1, w2, w3);
        checks.due(what, want, store.passes());
        store.drop();
    }

    /** "Those of a content with fingerprint f": bits that are the same one are set once. */
    private static void bitsThatFallTogether(Checks checks) {
        dueBits(checks, "bits 0, 0, 62", 2, 1, 2, 3, 126);
        dueBits(checks, "bits 0, 0, 0", 1, 0, 29, 32, 61);
        dueBits(checks, "bits 63, 63, 63", 1, 1, 0, 22, 40);
        dueBits(checks, "bits 0, 0, 0 of words that would carry", 1, 142, 142, 88, 216);
        dueBits(checks, "bits 63, 63, 63 of words that would carry", 1, 76, 76, 67, 124);
        dueBits(checks, "bits 63, 63, 63 of great words", 1, 405907177, -1741405880, -746269375, 1454307935);
    }

    private static void dueBits(Checks checks, String what, int want, int w0, int w1, int w2, int w3) {
        SharedBlockStore store = new SharedBlockStore();
        Stores.append(store, 0, w0, w1, w2, w3);
        checks.due(what, want, store.count(2));
    }

    /** "The GATE are 64 bits.": the first one is not the 33rd, nor the 64th the 32nd. */
    private static void highBits(Checks checks) {
        SharedBlockStore high = new SharedBlockStore();
        Stores.append(high, 0, 0, 0, 0, 0);
        Stores.append(high, 0, -1, 0, 0, 0);
        checks.due("bits 31, 7, 0 and 1, 16, 63", 6, high.count(2));
        SharedBlockStore twins = new SharedBlockStore();
        for (int last = 30; last < 63; last += 32) {
            Stores.append(twins, 0, last);
        }
        checks.due("bits 32, 8, 30 and 0, 16, 62", 6, twins.count(2));
    }

    /** "When a block is put in that was not in the index before, its content's bits are set" */
    private static void setByPuttingInAlone(Checks checks) {
        SharedBlockStore store = new SharedBlockStore();
        Stores.feed(store, 1, 2, 3, 60);
        store.find();
        store.passes();
        checks.due("bits before it is put in", 0, store.count(2));
        store.append(0);
        checks.due("bits when it is put in", 3, store.count(2));
        Stores.append(store, 1, 60);
        checks.due("bits when it is known", 3, store.count(2));
        Stores.fill(store, 1, 61, 11);
        Stores.fill(store, 2, 72, 28);
        int bits = store.count(2);
        checks.due("used", 40, store.count(0));
        checks.due("no free block", SharedBlockStore.NONE, Stores.append(store, 0, 22));
        checks.due("bits of a content without a block", bits, store.count(2));
        checks.due("passes", false, store.passes());
    }

    /** "they are cleared only when the index is MADE ANEW" */
    private static void clearedOnlyByMakingAnew(Checks checks) {
        SharedBlockStore store = new SharedBlockStore();
        Stores.append(store, 0, 60);
        Stores.append(store, 1, 124);
        checks.due("bits", 4, store.count(2));
        checks.due("cut", 1, store.cut(0, 0));
        checks.due("bits after cut", 4, store.count(2));
        checks.due("copy", 1, store.copy(1, 0));
        checks.due("bits after copy", 4, store.count(2));
        store.save();
        Stores.feed(store, 1, 2, 3, 60);
        store.drop();
        checks.due("bits after save and drop", 4, store.count(2));
        Stores.append(store, 0, 188);
        store.save();
        store.cut(0, 0);
        checks.due("saving without it", 3, store.save());
        checks.due("bits after a saving that gave a block back", 5, store.count(2));
        store.refresh();
        checks.due("bits after refresh", 0, store.count(2));
        Stores.append(store, 0, 60);
        store.recover();
        checks.due("bits after recover", 0, store.count(2));
    }

    /** "MADE ANEW: cells and bits are cleared", and so they stay if no block is used. */
    private static void madeAnewWithNothing(Checks checks) {
        SharedBlockStore store = new SharedBlockStore();
        store.refresh();
        checks.dueText("index of a new store", "[]", Stores.indexed(store));
        checks.due("bits of a new store", 0, store.count(2));
        Stores.append(store, 0, 60);
        store.cut(0, 0);
        store.refresh();
        checks.dueText("index", "[]", Stores.indexed(store));
        checks.due("bits", 0, store.count(2));
        Stores.feed(store, 1, 2, 3, 60);
        checks.due("passes", false, store.passes());
    }

    /** "and all used blocks put in, by rising numbers", those that are only saved too. */
    private static void madeAnewByRisingNumbers(Checks checks) {
        SharedBlockStore store = new SharedBlockStore();
        Stores.append(store, 0, 61);
        Stores.append(store, 1, 125);
        Stores.append(store, 2, 189);
        store.cut(0, 0);
        checks.due("block 0 again", 0, Stores.append(store, 3, 253));
        store.save();
        store.cut(1, 0);
        checks.dueText("cells as they came", "1 2 0 -1", Stores.cells(store, 63, 4));
        store.refresh();
        checks.dueText("cells by rising numbers", "0 1 2 -1", Stores.cells(store, 63, 4));
        checks.due("bits 63, 47, 61, 15, and again 63", 4, store.count(2));
        checks.due("a used block is not given back by it", 3, store.count(0));
    }

    /** "all used blocks put in": 40 of them, in a run over the end. */
    private static void madeAnewWithAll(Checks checks) {
        SharedBlockStore store = new SharedBlockStore();
        Stores.append(store, 4, 61);
        for (int i = 1; i < 40; i++) {
            Stores.append(store, i / 12, 61 + 64 * i);
        }
        store.cut(4, 0);
        checks.due("block 0 again", 0, Stores.append(store, 4, 61 + 64 * 40));
        checks.due("the end of the run", 0, store.cell(38));
        store.refresh();
        for (int i = 0; i < 40; i++) {
            checks.due("cell of block " + i, i, store.cell((63 + i) & 63));
        }
    }
}
