/** Promises 2 and 3, and 10 and 11 for small objects. */
public final class SmallObjectsTest {
    private static final Check check = new Check();

    public static void main(String[] args) {
        sizes();
        wrongSizes();
        placesInASlab();
        lowestPlaceOfLowestSlab();
        emptySlabIsFree();
        slabChangesItsSize();
        onlyBeginningsAreFreed();
        wordsAreZeroAtFirst();
        loadAndStore();
        noFrameButRoomInASlab();
        check.end();
    }

    private static void sizes() {
        int[] due = {2, 2, 4, 4, 8, 8, 8, 8};
        for (int n = 1; n <= 8; n++) {
            MovedFrames x = new MovedFrames();
            check.same("first kmalloc(" + n + ")", x.kmalloc(n), 0);
            check.same("second kmalloc(" + n + ")", x.kmalloc(n), due[n - 1]);
            check.same("owner(0) after kmalloc(" + n + ")", x.owner(0), 2);
            check.same("free() after kmalloc(" + n + ")", x.free(), 63);
        }
    }

    private static void wrongSizes() {
        MovedFrames x = new MovedFrames();
        int[] wrong = {0, 9, -1, 16, Integer.MIN_VALUE, Integer.MAX_VALUE};
        for (int n : wrong) {
            check.badArgument("kmalloc(" + n + ")", () -> x.kmalloc(n));
        }
        x.contig(5);
        x.contig(5);
        check.badArgument("kmalloc(0) with no frame free", () -> x.kmalloc(0));
        check.notEnough("kmalloc(1) with no frame free", () -> x.kmalloc(1));
        check.changesNothing("kmalloc(9)", x, () -> x.kmalloc(9));
    }

    private static void placesInASlab() {
        int[] sizes = {2, 4, 8};
        for (int size : sizes) {
            MovedFrames x = new MovedFrames();
            for (int i = 0; i < 16 / size; i++) {
                check.same("object " + i + " of size " + size, x.kmalloc(size), i * size);
            }
            check.same("the next slab of size " + size, x.kmalloc(size), 16);
            check.same("free() with two slabs", x.free(), 62);
        }
    }

    private static void lowestPlaceOfLowestSlab() {
        MovedFrames x = new MovedFrames();
        for (int i = 0; i < 12; i++) {
            x.kmalloc(4);
        }
        x.kfree(36);
        x.kfree(28);
        x.kfree(24);
        check.same("the lowest place of slab 1", x.kmalloc(3), 24);
        check.same("the next place of slab 1", x.kmalloc(3), 28);
        check.same("the place in slab 2", x.kmalloc(3), 36);
        check.same("a slab of another size", x.kmalloc(8), 48);
        check.same("a new slab", x.kmalloc(4), 64);
    }

    private static void emptySlabIsFree() {
        MovedFrames x = new MovedFrames();
        x.kmalloc(8);
        x.kmalloc(8);
        x.kfree(0);
        check.same("owner(0) with an object left", x.owner(0), 2);
        check.badArgument("kfree(0) twice", () -> x.kfree(0));
        x.kfree(8);
        check.same("owner(0) with no object left", x.owner(0), 0);
        check.same("free() with no object left", x.free(), 64);
        check.badArgument("kfree(8) of a free slab", () -> x.kfree(8));
        x.vmalloc(1);
        check.same("kmalloc where a range has the frame", x.kmalloc(8), 16);
    }

    private static void slabChangesItsSize() {
        MovedFrames x = new MovedFrames();
        x.kmalloc(2);
        x.kmalloc(2);
        x.kfree(0);
        check.same("a slab of size 8 beside", x.kmalloc(8), 16);
        x.kfree(2);
        check.same("a second object of size 8", x.kmalloc(8), 24);
        check.same("the free frame for size 4", x.kmalloc(4), 0);
        check.same("the next of size 4", x.kmalloc(4), 4);
        check.badArgument("kfree(2) in a slab of size 4", () -> x.kfree(2));
        check.same("the next slab of size 2", x.kmalloc(2), 32);
    }

    private static void onlyBeginningsAreFreed() {
        MovedFrames x = new MovedFrames();
        x.kmalloc(8);
        x.vmalloc(1);
        int[] wrong = {1, 2, 4, 7, 8, 16, 32, 1024, -1, -8, -16, 16 * 64 + 1, Integer.MIN_VALUE,
            Integer.MAX_VALUE};
        for (int address : wrong) {
            check.badArgument("kfree(" + address + ")", () -> x.kfree(address));
            check.changesNothing("kfree(" + address + ")", x, () -> x.kfree(address));
        }
        x.kfree(0);
    }

    private static void wordsAreZeroAtFirst() {
        MovedFrames x = new MovedFrames();
        x.kmalloc(4);
        x.kmalloc(4);
        x.kmalloc(4);
        for (int address = 0; address < 12; address++) {
            x.store(-1, address, 100 + address);
        }
        x.kfree(4);
        check.same("word of an object that is gone", x.word(0, 5), 105);
        x.kmalloc(4);
        for (int address = 0; address < 12; address++) {
            int due = address >= 4 && address < 8 ? 0 : 100 + address;
            check.same("load(-1, " + address + ")", x.load(-1, address), due);
        }
    }

    private static void loadAndStore() {
        MovedFrames x = new MovedFrames();
        x.vmalloc(1);
        x.kmalloc(2);
        x.kmalloc(2);
        x.kfree(16);
        x.store(-1, 18, Integer.MIN_VALUE);
        x.store(-1, 19, -7);
        check.same("load(-1, 18)", x.load(-1, 18), Integer.MIN_VALUE);
        check.same("load(-1, 19)", x.load(-1, 19), -7);
        check.same("word(1, 3)", x.word(1, 3), -7);
        int[] faults = {0, 15, 16, 17, 20, 31, 32, 1023, 1024, -1, -15, -16, Integer.MIN_VALUE,
            Integer.MAX_VALUE};
        for (int address : faults) {
            check.fault("load(-1, " + address + ")", () -> x.load(-1, address));
            check.fault("store(-1, " + address + ")", () -> x.store(-1, address, 1));
            check.changesNothing("store(-1, " + address + ")", x, () -> x.store(-1, address, 1));
        }
    }

    private static void noFrameButRoomInASlab() {
        MovedFrames x = new MovedFrames();
        x.contig(5);
        x.contig(4);
        x.contig(3);
        x.contig(2);
        x.contig(1);
        x.contig(0);
        check.same("kmalloc in the last frame", x.kmalloc(5), 1008);
        check.same("kmalloc in the same slab", x.kmalloc(5), 1016);
        check.notEnough("kmalloc(8)", () -> x.kmalloc(8));
        check.notEnough("kmalloc(2)", () -> x.kmalloc(2));
        check.same("load of the last word", x.load(-1, 1023), 0);
        x.kfree(1016);
        check.same("kmalloc in the same place", x.kmalloc(8), 1016);
    }
}
