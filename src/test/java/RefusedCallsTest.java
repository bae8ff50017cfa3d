/** The paragraph EXCEPTIONS: the order that a call names, and that a call that throws changes nothing. */
public final class RefusedCallsTest {
    private static final Class<IllegalArgumentException> BAD_ARGUMENT = IllegalArgumentException.class;
    private static final Class<IndexOutOfBoundsException> FAULT = IndexOutOfBoundsException.class;
    private static final Class<IllegalStateException> NOT_ENOUGH = IllegalStateException.class;

    private static final int LEAST = Integer.MIN_VALUE;
    private static final int GREATEST = Integer.MAX_VALUE;

    private static final Check check = new Check();
    private static final Twins fresh = new Twins(MovedFrames::new);
    private static final Twins mixed = new Twins(RefusedCallsTest::someOfAll);
    private static final Twins full = new Twins(() -> almostFull(0));
    private static final Twins oneFree = new Twins(() -> almostFull(1));
    private static final Twins scattered = new Twins(() -> Arrange.free(0x5555555555555555L));
    private static final Twins fourSpaces = new Twins(RefusedCallsTest::allSpaces);

    public static void main(String[] args) {
        statesAreAsTold();
        kmallocOfAWrongNumber();
        kmallocWithoutAFrame();
        kfreeWhereNoneBegins();
        vmallocOfAWrongNumber();
        vmallocWithoutFrames();
        vmallocWithoutPagesInARow();
        vfreeWhereNoneBegins();
        createWithAllFour();
        createWithoutAFrame();
        destroyOfWhatIsNotThere();
        mmapOfWhatIsNotThere();
        mmapOfAWrongNumber();
        mmapOfNoPage();
        mmapOfARegion();
        munmapOfWhatIsNotThere();
        munmapOfAWrongNumber();
        munmapOfNoPage();
        loadAndStoreOfNoSpace();
        loadAndStoreOfNoObject();
        loadAndStoreOfNoRange();
        loadAndStoreOfNoRegion();
        loadAndStoreWithoutAFrame();
        loadAndStoreWithoutTwoFrames();
        contigOfAWrongOrder();
        contigOfWhatCannotBeMoved();
        contigWithoutFreeFrames();
        releaseWhereNoneBegins();
        argumentBeforeNotEnough();
        argumentBeforeFault();
        faultBeforeNotEnough();
        check.end();
    }

    private static void statesAreAsTold() {
        check.sentence("The states that the calls of this test are refused in");
        String due = "RTpSSSprrrRrrTp." + "XXXX" + ".".repeat(12) + "X".repeat(16) + ".".repeat(16);
        check.same("some of all", Arrange.owners(someOfAll()), Arrange.ownersOf(due));
        check.same("almost full", Arrange.owners(almostFull(0)), Arrange.ownersOf("RTpSS"));
        check.same("one free", Arrange.owners(almostFull(1)), Arrange.ownersOf("RTpSSrrrr."));
    }

    private static void kmallocOfAWrongNumber() {
        check.sentence("kmalloc: 1 .. 8, else IllegalArgumentException. A call that throws changes nothing");
        for (int n : new int[] {0, 9, -1, LEAST, GREATEST}) {
            all(BAD_ARGUMENT, "kmalloc(" + n + ")", x -> x.kmalloc(n));
        }
    }

    private static void kmallocWithoutAFrame() {
        check.sentence("kmalloc: not enough that is free. A call that throws changes nothing");
        for (int n = 3; n <= 8; n++) {
            int words = n;
            full.refuses(check, NOT_ENOUGH, "kmalloc(" + n + ")", x -> x.kmalloc(words));
        }
        Twins noSlab = new Twins(Arrange::allTaken);
        for (int n = 1; n <= 8; n++) {
            int words = n;
            noSlab.refuses(check, NOT_ENOUGH, "kmalloc(" + n + ")", x -> x.kmalloc(words));
        }
    }

    private static void kfreeWhereNoneBegins() {
        check.sentence("kfree: IllegalArgumentException if none begins there. A call that throws changes nothing");
        for (int address : new int[] {-1, -2, -16, 1024, 1025, LEAST, GREATEST}) {
            all(BAD_ARGUMENT, "kfree(" + address + ")", x -> kfree(x, address));
        }
        fresh.refuses(check, BAD_ARGUMENT, "kfree(0)", x -> kfree(x, 0));
        // A root, a table, a page, inside of objects, places not taken, a range, a run, a free frame.
        for (int address : new int[] {0, 16, 32, 49, 50, 54, 64, 66, 69, 70, 72, 81, 82, 84, 88, 112, 256, 1008}) {
            mixed.refuses(check, BAD_ARGUMENT, "kfree(" + address + ")", x -> kfree(x, address));
        }
    }

    private static void vmallocOfAWrongNumber() {
        check.sentence("vmalloc: 1 .. 8, else IllegalArgumentException. A call that throws changes nothing");
        for (int n : new int[] {0, 9, -1, 64, LEAST, GREATEST}) {
            all(BAD_ARGUMENT, "vmalloc(" + n + ")", x -> x.vmalloc(n));
        }
    }

    private static void vmallocWithoutFrames() {
        check.sentence("vmalloc: not enough that is free. A call that throws changes nothing");
        for (int n = 1; n <= 8; n++) {
            int pages = n;
            full.refuses(check, NOT_ENOUGH, "vmalloc(" + n + ")", x -> x.vmalloc(pages));
            if (n > 1) {
                oneFree.refuses(check, NOT_ENOUGH, "vmalloc(" + n + ")", x -> x.vmalloc(pages));
            }
        }
        Twins seven = new Twins(() -> inRuns(5, 4, 3, 0));
        seven.refuses(check, NOT_ENOUGH, "vmalloc(8) with seven frames", x -> x.vmalloc(8));
        Twins none = new Twins(() -> inRuns(5, 5));
        none.refuses(check, NOT_ENOUGH, "vmalloc(1) with no frame", x -> x.vmalloc(1));
    }

    private static void vmallocWithoutPagesInARow() {
        check.sentence("vmalloc: not enough that is free. A call that throws changes nothing");
        for (int n = 2; n <= 8; n++) {
            int pages = n;
            scattered.refuses(check, NOT_ENOUGH, "vmalloc(" + n + ")", x -> x.vmalloc(pages));
        }
        Twins gaps = new Twins(() -> Arrange.free(0x7f7f7f7f7f7f7f7fL));
        gaps.refuses(check, NOT_ENOUGH, "vmalloc(8) with gaps of seven", x -> x.vmalloc(8));
    }

    private static void vfreeWhereNoneBegins() {
        check.sentence("vfree: IllegalArgumentException if none begins there. A call that throws changes nothing");
        for (int address : new int[] {-1, -16, 1, 15, 17, 1023, 1024, 1040, LEAST, GREATEST}) {
            all(BAD_ARGUMENT, "vfree(" + address + ")", x -> x.vfree(address));
        }
        fresh.refuses(check, BAD_ARGUMENT, "vfree(0)", x -> x.vfree(0));
        // Inside of a range, in a page that is not taken any more, in pages that never were.
        for (int address : new int[] {16, 32, 31, 48, 80, 96, 112, 1008}) {
            mixed.refuses(check, BAD_ARGUMENT, "vfree(" + address + ")", x -> x.vfree(address));
        }
    }

    private static void createWithAllFour() {
        check.sentence("create: IllegalStateException if all four are. A call that throws changes nothing");
        fourSpaces.refuses(check, NOT_ENOUGH, "create()", MovedFrames::create);
    }

    private static void createWithoutAFrame() {
        check.sentence("create: IllegalStateException if .. no frame is free. A call that throws changes nothing");
        full.refuses(check, NOT_ENOUGH, "create()", MovedFrames::create);
        new Twins(Arrange::allTaken).refuses(check, NOT_ENOUGH, "create()", MovedFrames::create);
    }

    private static void destroyOfWhatIsNotThere() {
        check.sentence("destroy: IllegalArgumentException if it is not there. A call that throws changes nothing");
        for (int space : new int[] {-1, -2, -3, 4, 5, LEAST, GREATEST}) {
            all(BAD_ARGUMENT, "destroy(" + space + ")", x -> x.destroy(space));
        }
        fresh.refuses(check, BAD_ARGUMENT, "destroy(0)", x -> x.destroy(0));
        mixed.refuses(check, BAD_ARGUMENT, "destroy(2) of a space that is gone", x -> x.destroy(2));
        mixed.refuses(check, BAD_ARGUMENT, "destroy(3) of a space that never was", x -> x.destroy(3));
    }

    private static void mmapOfWhatIsNotThere() {
        check.sentence("mmap: IllegalArgumentException if the space is not there. A call that throws changes nothing");
        for (int space : new int[] {-1, -2, -3, 4, LEAST, GREATEST}) {
            all(BAD_ARGUMENT, "mmap(" + space + ", 200, 1)", x -> mmap(x, space, 200, 1));
        }
        fresh.refuses(check, BAD_ARGUMENT, "mmap(0, 200, 1)", x -> mmap(x, 0, 200, 1));
        mixed.refuses(check, BAD_ARGUMENT, "mmap(2, 200, 1)", x -> mmap(x, 2, 200, 1));
    }

    private static void mmapOfAWrongNumber() {
        check.sentence("mmap: IllegalArgumentException if .. n is not 1 .. 64. A call that throws changes nothing");
        for (int n : new int[] {0, 65, -1, -200, 256, LEAST, GREATEST}) {
            all(BAD_ARGUMENT, "mmap(0, 150, " + n + ")", x -> mmap(x, 0, 150, n));
        }
    }

    private static void mmapOfNoPage() {
        check.sentence("mmap: IllegalArgumentException if .. one of them is no page. A call that throws changes nothing");
        int[][] wrong = {{-1, 1}, {-1, 2}, {-63, 64}, {256, 1}, {255, 2}, {193, 64}, {LEAST, 1}, {LEAST, 64},
            {GREATEST, 1}, {GREATEST, 64}, {GREATEST - 63, 64}};
        for (int[] w : wrong) {
            all(BAD_ARGUMENT, "mmap(0, " + w[0] + ", " + w[1] + ")", x -> mmap(x, 0, w[0], w[1]));
            fourSpaces.refuses(check, BAD_ARGUMENT, "mmap(1, " + w[0] + ", " + w[1] + ")",
                x -> mmap(x, 1, w[0], w[1]));
        }
    }

    private static void mmapOfARegion() {
        check.sentence("mmap: IllegalArgumentException if .. in a region already. A call that throws changes nothing");
        // Space 0 has the region 10 .. 49, of which pages 10, 11 and 40 are touched.
        int[][] wrong = {{0, 11}, {9, 2}, {10, 1}, {12, 1}, {49, 1}, {49, 64}, {0, 64}, {10, 40}, {45, 10}};
        for (int[] w : wrong) {
            mixed.refuses(check, BAD_ARGUMENT, "mmap(0, " + w[0] + ", " + w[1] + ")", x -> mmap(x, 0, w[0], w[1]));
        }
    }

    private static void munmapOfWhatIsNotThere() {
        check.sentence("munmap: IllegalArgumentException if the space is not there. A call that throws changes nothing");
        for (int space : new int[] {-1, -2, -3, 4, LEAST, GREATEST}) {
            all(BAD_ARGUMENT, "munmap(" + space + ", 0, 64)", x -> x.munmap(space, 0, 64));
        }
        fresh.refuses(check, BAD_ARGUMENT, "munmap(0, 0, 64)", x -> x.munmap(0, 0, 64));
        mixed.refuses(check, BAD_ARGUMENT, "munmap(2, 0, 64)", x -> x.munmap(2, 0, 64));
    }

    private static void munmapOfAWrongNumber() {
        check.sentence("munmap: IllegalArgumentException if .. n is not 1 .. 64. A call that throws changes nothing");
        for (int n : new int[] {0, 65, -1, 256, LEAST, GREATEST}) {
            all(BAD_ARGUMENT, "munmap(0, 0, " + n + ")", x -> x.munmap(0, 0, n));
            all(BAD_ARGUMENT, "munmap(0, 10, " + n + ")", x -> x.munmap(0, 10, n));
        }
    }

    private static void munmapOfNoPage() {
        check.sentence("munmap: IllegalArgumentException if .. one of them is no page. A call that throws changes nothing");
        int[][] wrong = {{-1, 1}, {-1, 64}, {-63, 64}, {256, 1}, {255, 2}, {193, 64}, {LEAST, 1}, {LEAST, 64},
            {GREATEST, 1}, {GREATEST, 64}, {GREATEST - 63, 64}};
        for (int[] w : wrong) {
            all(BAD_ARGUMENT, "munmap(0, " + w[0] + ", " + w[1] + ")", x -> x.munmap(0, w[0], w[1]));
            fourSpaces.refuses(check, BAD_ARGUMENT, "munmap(1, " + w[0] + ", " + w[1] + ")",
                x -> x.munmap(1, w[0], w[1]));
        }
    }

    private static void loadAndStoreOfNoSpace() {
        check.sentence("load, store: IllegalArgumentException for another space. A call that throws changes nothing");
        for (int space : new int[] {-3, -4, 4, 5, LEAST, GREATEST}) {
            all(BAD_ARGUMENT, "load(" + space + ", 160)", x -> x.load(space, 160));
            all(BAD_ARGUMENT, "store(" + space + ", 160, 7)", x -> store(x, space, 160));
        }
        fresh.refuses(check, BAD_ARGUMENT, "load(0, 0)", x -> x.load(0, 0));
        fresh.refuses(check, BAD_ARGUMENT, "store(0, 0, 7)", x -> store(x, 0, 0));
        for (int space : new int[] {2, 3}) {
            mixed.refuses(check, BAD_ARGUMENT, "load(" + space + ", 160)", x -> x.load(space, 160));
            mixed.refuses(check, BAD_ARGUMENT, "store(" + space + ", 160, 7)", x -> store(x, space, 160));
        }
    }

    private static void loadAndStoreOfNoObject() {
        check.sentence("load, store: IndexOutOfBoundsException for a fault. A call that throws changes nothing");
        for (int address : new int[] {-1, -16, 1024, LEAST, GREATEST}) {
            faults(fresh, -1, address);
            faults(mixed, -1, address);
        }
        for (int address : new int[] {0, 16, 32, 50, 51, 54, 64, 67, 72, 88, 95, 96, 112, 256, 1008, 1023}) {
            faults(mixed, -1, address);
        }
    }

    private static void loadAndStoreOfNoRange() {
        check.sentence("load, store: IndexOutOfBoundsException for a fault. A call that throws changes nothing");
        for (int address : new int[] {-1, -16, 1024, LEAST, GREATEST}) {
            faults(fresh, -2, address);
            faults(mixed, -2, address);
        }
        for (int address : new int[] {48, 63, 96, 1008, 1023}) {
            faults(mixed, -2, address);
        }
    }

    private static void loadAndStoreOfNoRegion() {
        check.sentence("load, store: IndexOutOfBoundsException for a fault. A call that throws changes nothing");
        for (int address : new int[] {-1, -16, 0, 159, 800, 4095, 4096, 8192, LEAST, GREATEST}) {
            faults(mixed, 0, address);
            faults(fourSpaces, 2, address);
        }
    }

    private static void loadAndStoreWithoutAFrame() {
        check.sentence("load, store: IllegalStateException if frames are needed and not free. It changes nothing");
        full.refuses(check, NOT_ENOUGH, "load of a page whose table is there", x -> x.load(0, 16));
        full.refuses(check, NOT_ENOUGH, "store of a page whose table is there", x -> store(x, 0, 16));
        full.refuses(check, NOT_ENOUGH, "load of the last page of the table", x -> x.load(0, 255));
    }

    private static void loadAndStoreWithoutTwoFrames() {
        check.sentence("load, store: IllegalStateException if frames are needed and not free. It changes nothing");
        full.refuses(check, NOT_ENOUGH, "load of a page without a table", x -> x.load(0, 1600));
        full.refuses(check, NOT_ENOUGH, "store of a page without a table", x -> store(x, 0, 1600));
        oneFree.refuses(check, NOT_ENOUGH, "load of a page without a table", x -> x.load(0, 1600));
        oneFree.refuses(check, NOT_ENOUGH, "store of a page without a table", x -> store(x, 0, 1600));
    }

    private static void contigOfAWrongOrder() {
        check.sentence("contig: order 0 .. 5, else IllegalArgumentException. A call that throws changes nothing");
        for (int order : new int[] {-1, 6, 7, 32, 37, -27, LEAST, GREATEST}) {
            all(BAD_ARGUMENT, "contig(" + order + ")", x -> x.contig(order));
        }
    }

    private static void contigOfWhatCannotBeMoved() {
        check.sentence("contig: IllegalStateException if no block is able. A call that throws changes nothing");
        for (int order = 1; order <= 5; order++) {
            int k = order;
            scattered.refuses(check, NOT_ENOUGH, "contig(" + order + ")", x -> x.contig(k));
        }
        mixed.refuses(check, NOT_ENOUGH, "contig(5)", x -> x.contig(5));
        Twins noFrame = new Twins(Arrange::allTaken);
        noFrame.refuses(check, NOT_ENOUGH, "contig(0)", x -> x.contig(0));
    }

    private static void contigWithoutFreeFrames() {
        check.sentence("contig: IllegalStateException if no block is able. A call that throws changes nothing");
        Twins none = new Twins(() -> Arrange.layout("RTpppppp"));
        none.refuses(check, NOT_ENOUGH, "contig(0) of a page, none free", x -> x.contig(0));
        none.refuses(check, NOT_ENOUGH, "contig(1) of pages, none free", x -> x.contig(1));
        Twins three = new Twins(() -> Arrange.layout("RTrr" + "pppp" + ".r.r" + ".rrr"));
        three.refuses(check, NOT_ENOUGH, "contig(2) of four pages, three free", x -> x.contig(2));
        Twins inside = new Twins(() -> Arrange.layout("RTrr" + "p.p." + "rrr."));
        inside.refuses(check, NOT_ENOUGH, "contig(2) of two pages, one free outside", x -> x.contig(2));
        Twins half = new Twins(() -> Arrange.layout("RTTr" + ".".repeat(28) + "p".repeat(29) + "..."));
        half.refuses(check, NOT_ENOUGH, "contig(5) of 29 pages, 28 free outside", x -> x.contig(5));
    }

    private static void releaseWhereNoneBegins() {
        check.sentence("release: IllegalArgumentException if none begins there. A call that throws changes nothing");
        for (int frame : new int[] {-1, 64, 65, 256, LEAST, GREATEST}) {
            all(BAD_ARGUMENT, "release(" + frame + ")", x -> x.release(frame));
        }
        fresh.refuses(check, BAD_ARGUMENT, "release(0)", x -> x.release(0));
        // A root, a table, a page, a slab, a range, inside of the run 16 .. 19, a free frame.
        for (int frame : new int[] {0, 1, 2, 3, 7, 17, 18, 19, 20, 33, 47, 63}) {
            mixed.refuses(check, BAD_ARGUMENT, "release(" + frame + ")", x -> x.release(frame));
        }
    }

    private static void argumentBeforeNotEnough() {
        check.sentence("EXCEPTIONS, in the order that a call names: IllegalArgumentException before IllegalStateException");
        full.refuses(check, BAD_ARGUMENT, "kmalloc(9)", x -> x.kmalloc(9));
        full.refuses(check, BAD_ARGUMENT, "kmalloc(0)", x -> x.kmalloc(0));
        full.refuses(check, BAD_ARGUMENT, "vmalloc(9)", x -> x.vmalloc(9));
        full.refuses(check, BAD_ARGUMENT, "vmalloc(0)", x -> x.vmalloc(0));
        full.refuses(check, BAD_ARGUMENT, "contig(6)", x -> x.contig(6));
        full.refuses(check, BAD_ARGUMENT, "contig(-1)", x -> x.contig(-1));
        full.refuses(check, BAD_ARGUMENT, "load(1, 16)", x -> x.load(1, 16));
        full.refuses(check, BAD_ARGUMENT, "store(1, 16, 7)", x -> store(x, 1, 16));
        full.refuses(check, BAD_ARGUMENT, "load(-3, 16)", x -> x.load(-3, 16));
        full.refuses(check, BAD_ARGUMENT, "load(4, 16)", x -> x.load(4, 16));
        oneFree.refuses(check, BAD_ARGUMENT, "load(1, 1600)", x -> x.load(1, 1600));
    }

    private static void argumentBeforeFault() {
        check.sentence("EXCEPTIONS, in the order that a call names: IllegalArgumentException before IndexOutOfBounds");
        for (int space : new int[] {-3, 3, 4, LEAST, GREATEST}) {
            for (int address : new int[] {-1, 0, 4096, LEAST, GREATEST}) {
                String told = "(" + space + ", " + address + ")";
                mixed.refuses(check, BAD_ARGUMENT, "load" + told, x -> x.load(space, address));
                mixed.refuses(check, BAD_ARGUMENT, "store" + told, x -> store(x, space, address));
            }
        }
    }

    private static void faultBeforeNotEnough() {
        check.sentence("EXCEPTIONS, in the order that a call names: IndexOutOfBounds before IllegalStateException");
        for (int address : new int[] {-1, 256, 1584, 1616, 4096, LEAST, GREATEST}) {
            faults(full, 0, address);
            faults(oneFree, 0, address);
        }
        faults(full, -1, 0);
        faults(full, -2, 0);
    }

    /** In every state: what the call asks is wrong in all of them. */
    private static void all(Class<? extends RuntimeException> due, String what, Twins.Call call) {
        fresh.refuses(check, due, what + " of a new object", call);
        mixed.refuses(check, due, what + " with some of all", call);
        full.refuses(check, due, what + " with no frame free", call);
    }

    private static void faults(Twins state, int space, int address) {
        String told = "(" + space + ", " + address + ")";
        state.refuses(check, FAULT, "load" + told, x -> x.load(space, address));
        state.refuses(check, FAULT, "store" + told, x -> store(x, space, address));
    }

    private static long kfree(MovedFrames x, int address) {
        x.kfree(address);
        return 0;
    }

    private static long mmap(MovedFrames x, int space, int page, int n) {
        x.mmap(space, page, n);
        return 0;
    }

    private static long store(MovedFrames x, int space, int address) {
        x.store(space, address, 7);
        return 0;
    }

    /**
     * Frame 0 is a root, 1 a table, 2 a page; 3 to 5 are slabs with objects at 48, 52, 68 and 80; 6 is a
     * page; 7 to 9 and 11, 12 are ranges (pages 0 .. 2 and 4, 5), 10 is the root of space 1; 13 is a table,
     * 14 a page; 16 .. 19 and 32 .. 47 are runs. Pages 10 .. 49 of space 0 are in a region, of which 10, 11
     * and 40 are touched; space 2 is gone.
     */
    private static MovedFrames someOfAll() {
        MovedFrames x = new MovedFrames();
        x.create();
        x.mmap(0, 10, 40);
        x.store(0, 160, 21);
        for (int n : new int[] {2, 2, 2, 4, 4, 8}) {
            x.kmalloc(n);
        }
        // No word is 0 that a call could set to 0, also where an object was.
        for (int address = 48; address < 88; address++) {
            if (address < 54 || address >= 64 && address < 72 || address >= 80) {
                x.store(-1, address, 100 + address);
            }
        }
        x.kfree(50);
        x.kfree(64);
        x.store(0, 176, 23);
        for (int n : new int[] {3, 1, 2}) {
            x.vmalloc(n);
        }
        for (int address = 0; address < 96; address += 5) {
            x.store(-2, address, 200 + address);
        }
        x.vfree(48);
        x.create();
        x.mmap(1, 0, 64);
        x.create();
        x.mmap(2, 0, 64);
        x.load(2, 0);
        x.contig(2);
        x.destroy(2);
        x.store(0, 640, 25);
        x.contig(4);
        return x;
    }

    /**
     * A root, a table, a page, a full slab of two objects, one of eight places with room, and ranges; at
     * most one free frame. Pages 0 .. 15 of space 0 are in a region, with a table; page 100 is too, but
     * without one.
     */
    private static MovedFrames almostFull(int free) {
        MovedFrames x = Arrange.layout("RTpS.");
        x.kmalloc(2);
        x.kmalloc(2);
        x.mmap(0, 100, 1);
        if (free == 1) {
            x.vfree(16 * 9);
        }
        return x;
    }

    private static MovedFrames allSpaces() {
        MovedFrames x = new MovedFrames();
        for (int space = 0; space < 4; space++) {
            x.create();
            x.mmap(space, 60, 40);
            x.store(space, 1000, 31 + space);
        }
        return x;
    }

    private static MovedFrames inRuns(int... orders) {
        MovedFrames x = new MovedFrames();
        for (int order : orders) {
            x.contig(order);
        }
        return x;
    }
}
