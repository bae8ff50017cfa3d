/** Promises 4 and 5, and 10 and 11 for ranges. */
public final class RangesTest {
    private static final Check check = new Check();

    public static void main(String[] args) {
        addresses();
        wrongLengths();
        framesOneAfterTheOther();
        lowestPagesInARow();
        onlyBeginningsAreFreed();
        noPagesInARow();
        noPagesBehindTheLast();
        tooFewFrames();
        loadAndStore();
        check.end();
    }

    private static void addresses() {
        MovedFrames x = new MovedFrames();
        int page = 0;
        for (int n = 1; n <= 8; n++) {
            check.same("vmalloc(" + n + ")", x.vmalloc(n), 16 * page);
            page += n;
        }
        check.same("free()", x.free(), 64 - 36);
        check.same("owner(35)", x.owner(35), 3);
        check.same("owner(36)", x.owner(36), 0);
        page = 0;
        for (int n = 1; n <= 8; n++) {
            check.same("vfree of " + n, x.vfree(16 * page), n);
            page += n;
        }
        check.same("free() at the end", x.free(), 64);
    }

    private static void wrongLengths() {
        MovedFrames x = new MovedFrames();
        int[] wrong = {0, 9, -1, 64, Integer.MIN_VALUE, Integer.MAX_VALUE};
        for (int n : wrong) {
            check.badArgument("vmalloc(" + n + ")", () -> x.vmalloc(n));
            check.changesNothing("vmalloc(" + n + ")", x, () -> x.vmalloc(n));
        }
        x.contig(5);
        x.contig(5);
        check.badArgument("vmalloc(9) with no frame free", () -> x.vmalloc(9));
        check.notEnough("vmalloc(8) with no frame free", () -> x.vmalloc(8));
    }

    /** The frames come from the smallest free blocks, each after the one before was given. */
    private static void framesOneAfterTheOther() {
        MovedFrames x = new MovedFrames();
        for (int i = 0; i < 10; i++) {
            x.vmalloc(1);
        }
        x.vfree(16 * 1);
        x.vfree(16 * 4);
        x.vfree(16 * 5);
        x.vfree(16 * 8);
        check.same("vmalloc(5) behind the others", x.vmalloc(5), 160);
        int[] due = {1, 8, 4, 5, 10};
        for (int i = 0; i < due.length; i++) {
            check.same("frame(-2, " + (10 + i) + ")", x.frame(-2, 10 + i), due[i]);
        }
    }

    private static void lowestPagesInARow() {
        MovedFrames x = new MovedFrames();
        x.vmalloc(2);
        x.vmalloc(1);
        x.vmalloc(3);
        x.vmalloc(1);
        x.vfree(0);
        x.vfree(48);
        check.same("vmalloc(3) in the second gap", x.vmalloc(3), 48);
        check.same("vmalloc(1) in the first gap", x.vmalloc(1), 0);
        check.same("vmalloc(1) in its rest", x.vmalloc(1), 16);
        check.same("vmalloc(1) behind all", x.vmalloc(1), 112);
        x.vfree(0);
        x.vfree(16);
        check.same("two gaps are one", x.vmalloc(2), 0);
    }

    private static void onlyBeginningsAreFreed() {
        MovedFrames x = new MovedFrames();
        x.vmalloc(3);
        x.kmalloc(8);
        int[] wrong = {1, 15, 16, 32, 48, 1008, 1024, -16, -1, Integer.MIN_VALUE, Integer.MAX_VALUE};
        for (int address : wrong) {
            check.badArgument("vfree(" + address + ")", () -> x.vfree(address));
            check.changesNothing("vfree(" + address + ")", x, () -> x.vfree(address));
        }
        check.same("vfree(0)", x.vfree(0), 3);
        check.badArgument("vfree(0) twice", () -> x.vfree(0));
        check.same("frame(-2, 1) of a range that is gone", x.frame(-2, 1), -1);
    }

    /** 64 pages, every second of them taken: there are 32 free frames, but no two pages. */
    private static void noPagesInARow() {
        MovedFrames x = new MovedFrames();
        for (int i = 0; i < 64; i++) {
            x.vmalloc(1);
        }
        for (int i = 0; i < 64; i += 2) {
            x.vfree(16 * i);
        }
        check.notEnough("vmalloc(2)", () -> x.vmalloc(2));
        check.changesNothing("vmalloc(2)", x, () -> x.vmalloc(2));
        check.same("vmalloc(1)", x.vmalloc(1), 0);
        x.vfree(16 * 63);
        check.same("vmalloc(2) at the end", x.vmalloc(2), 16 * 62);
        check.fault("load(-2, 1024)", () -> x.load(-2, 1024));
    }

    private static void noPagesBehindTheLast() {
        MovedFrames x = new MovedFrames();
        for (int i = 0; i < 64; i++) {
            x.vmalloc(1);
        }
        for (int i = 1; i < 64; i += 2) {
            x.vfree(16 * i);
        }
        check.notEnough("vmalloc(2) with page 63 alone", () -> x.vmalloc(2));
        check.same("frame(-2, 64)", x.frame(-2, 64), -1);
    }

    private static void tooFewFrames() {
        MovedFrames x = new MovedFrames();
        x.contig(5);
        x.contig(4);
        x.contig(3);
        x.contig(0);
        check.same("free()", x.free(), 7);
        check.notEnough("vmalloc(8)", () -> x.vmalloc(8));
        check.changesNothing("vmalloc(8)", x, () -> x.vmalloc(8));
        check.same("vmalloc(7)", x.vmalloc(7), 0);
        check.same("free() then", x.free(), 0);
    }

    private static void loadAndStore() {
        MovedFrames x = new MovedFrames();
        x.kmalloc(2);
        x.vmalloc(2);
        check.same("load(-2, 0) at first", x.load(-2, 0), 0);
        x.store(-2, 0, 5);
        x.store(-2, 15, 6);
        x.store(-2, 16, 7);
        x.store(-2, 31, Integer.MIN_VALUE);
        check.same("load(-2, 0)", x.load(-2, 0), 5);
        check.same("load(-2, 15)", x.load(-2, 15), 6);
        check.same("load(-2, 16)", x.load(-2, 16), 7);
        check.same("load(-2, 31)", x.load(-2, 31), Integer.MIN_VALUE);
        check.same("word(1, 15)", x.word(1, 15), 6);
        check.same("word(2, 0)", x.word(2, 0), 7);
        int[] faults = {32, 47, 1023, 1024, -1, -16, Integer.MIN_VALUE, Integer.MAX_VALUE};
        for (int address : faults) {
            check.fault("load(-2, " + address + ")", () -> x.load(-2, address));
            check.fault("store(-2, " + address + ")", () -> x.store(-2, address, 1));
            check.changesNothing("store(-2, " + address + ")", x, () -> x.store(-2, address, 1));
        }
        x.vfree(0);
        check.fault("load(-2, 0) of a range that is gone", () -> x.load(-2, 0));
        x.vmalloc(1);
        check.same("load(-2, 0) of a new range", x.load(-2, 0), 0);
    }
}
