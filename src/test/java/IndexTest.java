/** Promises 10, 11, 12, 14 and 19. Homes and bits were reckoned apart from the program. */
final class IndexTest {
    public static void main(String[] args) {
        Checks checks = new Checks();
        homes(checks);
        finds(checks);
        passes(checks);
        cells(checks);
        takesOutOverTheEnd(checks);
        keepsWhatIsAtHome(checks);
        refreshes(checks);
        refuseWhenDown(checks);
        checks.end();
    }

    private static void homes(Checks checks) {
        int[][] contents = {
            {0, 0, 0, 0, 31}, {1, 2, 3, 4, 6}, {7, 7, 7, 7, 11}, {-1, -2, -3, -4, 36}, {-1, -1, -1, -1, 32},
            {2147483647, -2147483648, 5, -1, 11}, {-1, 0, 0, 0, 1}, {123456789, -987654321, 55, 6, 43},
        };
        for (int[] content : contents) {
            SharedBlockStore store = new SharedBlockStore();
            Stores.append(store, 0, content[0], content[1], content[2], content[3]);
            checks.due("the cell at home", 0, store.cell(content[4]));
        }
    }

    private static void finds(Checks checks) {
        SharedBlockStore store = new SharedBlockStore();
        checks.illegalState("find of nothing", store::find);
        Stores.feed(store, 1, 2, 3, 60);
        checks.due("find in an empty index", SharedBlockStore.NONE, store.find());
        checks.due("the empty cell is a probe", 1, store.probes());
        store.append(0);
        Stores.append(store, 0, 124);
        Stores.append(store, 0, 188);
        checks.due("appends that the gate stops make no probes", 1, store.probes());
        Stores.feed(store, 1, 2, 3, 188);
        checks.due("find behind 63", 2, store.find());
        checks.due("its probes", 4, store.probes());
        checks.due("find again", 2, store.find());
        checks.due("the stage stays", 4, store.drop());
        Stores.feed(store, 1, 2, 3, 252);
        checks.due("find of another with that home", SharedBlockStore.NONE, store.find());
        checks.due("probes, without the gate", 11, store.probes());
        store.drop();
        store.feed(1);
        store.feed(2);
        store.feed(3);
        checks.illegalState("find of three words", store::find);
        checks.due("no probes then", 11, store.probes());
    }

    private static void passes(Checks checks) {
        SharedBlockStore store = new SharedBlockStore();
        checks.illegalState("passes without words", store::passes);
        Stores.append(store, 0, 60);
        checks.due("bits 62, 31, 60", 3, store.count(2));
        Stores.feed(store, 1, 2, 3, 60);
        checks.due("a content that was put in", true, store.passes());
        store.drop();
        Stores.feed(store, 1, 2, 3, 124);
        checks.due("bits 62, 15, 60", false, store.passes());
        store.append(0);
        checks.due("bits then", 4, store.count(2));
        // Bits 62, 31, 60 as those of 1, 2, 3, 60: the gate lets it, the index does not have it.
        int twin = twinOf60();
        Stores.feed(store, 1, 2, twin, twin ^ 1 ^ 2 ^ 60);
        checks.due("a content of the same bits", true, store.passes());
        checks.due("it is not found", SharedBlockStore.NONE, store.find());
        checks.due("passes makes no probes", 3, store.probes());
        store.drop();
        store.cut(0, 0);
        checks.due("bits stay when blocks go", 4, store.count(2));
        store.feed(1);
        store.feed(2);
        store.feed(3);
        checks.illegalState("passes with three words", store::passes);
        // The fingerprint of 1, 2, 3, 126 is 0, so that two of its bits are one.
        SharedBlockStore twice = new SharedBlockStore();
        Stores.append(twice, 0, 126);
        checks.due("bits 0, 0, 62", 2, twice.count(2));
    }

    /** A third word other than 3, so that the content has the fingerprint 126 of 1, 2, 3, 60. */
    private static int twinOf60() {
        for (int third = 4; third < 100000; third++) {
            int f = 17;
            for (int word : new int[] {1, 2, third, third ^ 1 ^ 2 ^ 60}) {
                f = f * 31 + word;
                f ^= f >>> 15;
            }
            if ((f & 255) == 126) {
                return third;
            }
        }
        throw new AssertionError("no twin");
    }

    private static void cells(Checks checks) {
        SharedBlockStore store = new SharedBlockStore();
        Stores.append(store, 0, 61);
        Stores.append(store, 0, 125);
        Stores.append(store, 0, 62);
        checks.dueText("cells 62 .. 3", "-1 0 1 2 -1 -1", Stores.cells(store, 62, 6));
        checks.due("cell -1", SharedBlockStore.NONE, store.cell(-1));
        checks.due("cell 64", SharedBlockStore.NONE, store.cell(64));
        checks.due("cell of the least int", SharedBlockStore.NONE, store.cell(Integer.MIN_VALUE));
        checks.due("cell of the greatest int", SharedBlockStore.NONE, store.cell(Integer.MAX_VALUE));
    }

    private static void takesOutOverTheEnd(Checks checks) {
        SharedBlockStore store = new SharedBlockStore();
        // Homes 62, 63, 62, 1, 62: the blocks lie in the cells 62, 63, 0, 1, 2.
        int[] lasts = {60, 61, 124, 63, 188};
        for (int i = 0; i < lasts.length; i++) {
            Stores.append(store, i, lasts[i]);
        }
        checks.dueText("cells", "0 1 2 3 4 -1", Stores.cells(store, 62, 6));
        // The gate let block 4 by the bits of those before it.
        checks.due("probes of appending", 5, store.probes());
        checks.due("cut", 1, store.cut(0, 0));
        checks.dueText("cells after it", "2 1 4 3 -1 -1", Stores.cells(store, 62, 6));
        checks.due("cut of the one at 63", 1, store.cut(1, 0));
        checks.dueText("cells then", "2 4 -1 3 -1 -1", Stores.cells(store, 62, 6));
        checks.due("no probes of taking out", 5, store.probes());
    }

    private static void keepsWhatIsAtHome(Checks checks) {
        SharedBlockStore store = new SharedBlockStore();
        // Homes 61, 62, 0: nothing has to move.
        Stores.append(store, 0, 59);
        Stores.append(store, 1, 60);
        Stores.append(store, 2, 62);
        store.cut(0, 0);
        checks.dueText("cells", "-1 1 -1 2", Stores.cells(store, 61, 4));
    }

    private static void refreshes(Checks checks) {
        SharedBlockStore store = new SharedBlockStore();
        Stores.append(store, 0, 60);
        Stores.append(store, 1, 124);
        Stores.append(store, 2, 188);
        store.cut(0, 0);
        checks.due("block 0 again", 0, Stores.append(store, 3, 252));
        checks.dueText("cells as they came", "1 2 0 -1", Stores.cells(store, 62, 4));
        checks.due("bits of four contents", 6, store.count(2));
        Stores.feed(store, 5, 6, 7, 8);
        int probes = store.probes();
        int writes = store.writes();
        store.refresh();
        checks.dueText("cells by rising numbers", "0 1 2 -1", Stores.cells(store, 62, 4));
        checks.due("bits 62, 60, 47, 15, 63", 5, store.count(2));
        checks.due("the stage stays", 4, store.drop());
        checks.due("no probes", probes, store.probes());
        checks.due("no writes", writes, store.writes());
        store.save();
        store.cut(1, 0);
        store.refresh();
        checks.dueText("saved blocks are in it too", "0 1 2 -1", Stores.cells(store, 62, 4));
        Stores.feed(store, 1, 2, 3, 60);
        checks.due("the gate forgot what is gone", false, store.passes());
    }

    private static void refuseWhenDown(Checks checks) {
        SharedBlockStore down = Stores.downWithFullStage();
        checks.illegalState("find when down", down::find);
        checks.illegalState("passes when down", down::passes);
        checks.illegalState("cell when down", () -> down.cell(64));
        checks.illegalState("refresh when down", down::refresh);
        checks.due("probes when down", 0, down.probes());
    }
}
