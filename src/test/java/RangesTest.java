/** Promises 4 and 5, and 10 and 11 for ranges. */
public final class RangesTest {
    private static final Check check = new Check();

    public static void main(String[] args) {
        addresses();
        wrongLengths();
        sixtyFourPages();
        lowestPagesInARow();
        gapsThatAreTooShort();
        gapsThatAreJustLongEnough();
        gapsThatJoin();
        noPagesInARow();
        rowsEndAtTheLastPage();
        framesByRisingPages();
        framesOneAfterTheOther();
        nothingFree();
        tooFewFrames();
        noneBeginsThere();
        goneWithAllItsPages();
        loadAndStore();
        faults();
        check.end();
    }

    private static void addresses() {
        check.sentence("A range of n pages (1 .. 8 ..): its address");
        MovedFrames x = new MovedFrames();
        int page = 0;
        for (int n = 1; n <= 8; n++) {
            check.same("vmalloc(" + n + ")", x.vmalloc(n), 16 * page);
            page += n;
        }
        check.same("free()", x.free(), 64 - 36);
        check.same("owner(35)", x.owner(35), 3);
        check.same("owner(36)", x.owner(36), 0);
        page = 0;
        for (int n = 1; n <= 8; n++) {
            check.same("vfree of " + n, x.vfree(16 * page), n);
            page += n;
        }
        check.same("free() at the end", x.free(), 64);
    }

    private static void wrongLengths() {
        check.sentence("n pages (1 .. 8, else IllegalArgumentException)");
        int[] wrong = {0, 9, -1, -8, 10, 64, 65, Integer.MIN_VALUE, Integer.MIN_VALUE + 1, Integer.MAX_VALUE};
        for (int n : wrong) {
            MovedFrames x = new MovedFrames();
            check.badArgument("vmalloc(" + n + ")", () -> x.vmalloc(n));
            MovedFrames full = Arrange.allTaken();
            check.badArgument("vmalloc(" + n + ") with nothing free", () -> full.vmalloc(n));
        }
    }

    private static void sixtyFourPages() {
        check.sentence("there are 64 range pages");
        MovedFrames x = new MovedFrames();
        for (int i = 0; i < 8; i++) {
            check.same("vmalloc(8)", x.vmalloc(8), 128 * i);
        }
        check.notEnough("vmalloc(1) with all taken", () -> x.vmalloc(1));
        check.same("frame(-2, -1)", x.frame(-2, -1), -1);
        check.same("frame(-2, 63)", x.frame(-2, 63), 63);
        check.same("frame(-2, 64)", x.frame(-2, 64), -1);
        check.same("load(-2, 1023)", x.load(-2, 1023), 0);
        check.fault("load(-2, 1024)", () -> x.load(-2, 1024));
        check.same("vfree of the last eight", x.vfree(16 * 56), 8);
        check.same("vmalloc(8) in the last eight", x.vmalloc(8), 16 * 56);
    }

    private static void lowestPagesInARow() {
        check.sentence("a range of n takes the lowest n in a row that are not taken");
        MovedFrames x = new MovedFrames();
        x.vmalloc(2);
        x.vmalloc(1);
        x.vmalloc(3);
        x.vmalloc(1);
        x.vfree(0);
        x.vfree(48);
        check.same("vmalloc(3) in the second gap", x.vmalloc(3), 48);
        check.same("vmalloc(1) in the first gap", x.vmalloc(1), 0);
        check.same("vmalloc(1) in its rest", x.vmalloc(1), 16);
        check.same("vmalloc(1) behind all", x.vmalloc(1), 112);
    }

    /** A gap of n - 1 pages at the beginning, one in the middle, and one of n at the very end. */
    private static void gapsThatAreTooShort() {
        check.sentence("a range of n takes the lowest n in a row that are not taken");
        for (int n = 2; n <= 8; n++) {
            long shorter = (1L << n - 1) - 1;
            long gap = (1L << n) - 1;
            MovedFrames x = Arrange.free(shorter | shorter << 20 | gap << 64 - n);
            check.same("vmalloc(" + n + ") in the last gap", x.vmalloc(n), 16 * (64 - n));
            check.same("vmalloc(" + (n - 1) + ") in the first", x.vmalloc(n - 1), 0);
        }
    }

    private static void gapsThatAreJustLongEnough() {
        check.sentence("a range of n takes the lowest n in a row that are not taken");
        for (int n = 1; n <= 8; n++) {
            long gap = (1L << n) - 1;
            for (int first = 0; first + n <= 64; first++) {
                MovedFrames x = Arrange.free(gap << first);
                check.same("vmalloc(" + n + ") from page " + first, x.vmalloc(n), 16 * first);
                check.notEnough("vmalloc(1) then", () -> x.vmalloc(1));
            }
            MovedFrames longer = Arrange.free(gap << 10 | 0x1ffL << 20);
            check.same("the first gap is before a longer one", longer.vmalloc(n), 160);
            check.same("the beginning of the longer one", longer.vmalloc(n), 320);
        }
    }

    private static void gapsThatJoin() {
        check.sentence("The range that begins at an address is gone");
        MovedFrames x = new MovedFrames();
        x.vmalloc(3);
        x.vmalloc(2);
        x.vmalloc(3);
        x.vmalloc(1);
        x.vfree(0);
        x.vfree(16 * 5);
        check.same("two gaps of three are too short", x.vmalloc(4), 16 * 9);
        x.vfree(16 * 3);
        check.same("the gaps are one of eight", x.vmalloc(8), 0);
    }

    /** 64 pages, every second of them taken: there are 32 free frames, but no two pages. */
    private static void noPagesInARow() {
        check.sentence("IllegalStateException: there is not enough that is free");
        for (int n = 2; n <= 8; n++) {
            int length = n;
            MovedFrames even = Arrange.free(0x5555555555555555L);
            check.notEnough("vmalloc(" + n + "), even pages", () -> even.vmalloc(length));
            check.same("vmalloc(1), even pages", even.vmalloc(1), 0);
            MovedFrames odd = Arrange.free(0xaaaaaaaaaaaaaaaaL);
            check.notEnough("vmalloc(" + n + "), odd pages", () -> odd.vmalloc(length));
            check.same("vmalloc(1), odd pages", odd.vmalloc(1), 16);
        }
    }

    /** The pages before the first and behind the last one do not make a row together. */
    private static void rowsEndAtTheLastPage() {
        check.sentence("the lowest n in a row");
        for (int n = 2; n <= 8; n++) {
            int length = n;
            long low = (1L << n - 1) - 1;
            MovedFrames x = Arrange.free(low | low << 64 - (n - 1));
            check.notEnough("vmalloc(" + n + ")", () -> x.vmalloc(length));
            check.same("vmalloc(" + (n - 1) + ") at the beginning", x.vmalloc(n - 1), 0);
            check.same("vmalloc(" + (n - 1) + ") at the end", x.vmalloc(n - 1), 16 * (65 - n));
        }
    }

    private static void framesByRisingPages() {
        check.sentence("a frame is given to each, by rising pages");
        MovedFrames x = new MovedFrames();
        x.kmalloc(1);
        x.vmalloc(8);
        for (int page = 0; page < 8; page++) {
            check.same("frame(-2, " + page + ")", x.frame(-2, page), 1 + page);
            check.same("owner(" + (1 + page) + ")", x.owner(1 + page), 3);
        }
    }

    /** The frames come from the smallest free blocks, each after the one before was given. */
    private static void framesOneAfterTheOther() {
        check.sentence("a frame is given to each, by rising pages; one after the other");
        MovedFrames x = new MovedFrames();
        for (int i = 0; i < 10; i++) {
            x.vmalloc(1);
        }
        x.vfree(16 * 1);
        x.vfree(16 * 4);
        x.vfree(16 * 5);
        x.vfree(16 * 8);
        check.same("vmalloc(5) behind the others", x.vmalloc(5), 160);
        int[] due = {1, 8, 4, 5, 10};
        for (int i = 0; i < due.length; i++) {
            check.same("frame(-2, " + (10 + i) + ")", x.frame(-2, 10 + i), due[i]);
        }
        // Eight free frames in a row, and yet those of the lower orders come first.
        MovedFrames y = Arrange.free(0xffL | 1L << 13 | 3L << 18 | 1L << 40);
        check.same("vmalloc(8) in pages 0 .. 7", y.vmalloc(8), 0);
        int[] then = {13, 40, 18, 19, 0, 1, 2, 3};
        for (int page = 0; page < then.length; page++) {
            check.same("frame(-2, " + page + ") of eight", y.frame(-2, page), then[page]);
        }
    }

    private static void nothingFree() {
        check.sentence("IllegalStateException: there is not enough that is free");
        for (int n = 1; n <= 8; n++) {
            int length = n;
            MovedFrames full = Arrange.allTaken();
            check.notEnough("vmalloc(" + n + ") with all pages taken", () -> full.vmalloc(length));
            MovedFrames x = new MovedFrames();
            x.contig(5);
            x.contig(5);
            check.notEnough("vmalloc(" + n + ") with no frame free", () -> x.vmalloc(length));
        }
    }

    /** All pages are free, but only some frames: one too few, and just enough. */
    private static void tooFewFrames() {
        check.sentence("IllegalStateException: there is not enough that is free");
        for (int n = 1; n <= 8; n++) {
            int length = n;
            MovedFrames few = withFreeFrames(n - 1);
            check.notEnough("vmalloc(" + n + ") with one too few", () -> few.vmalloc(length));
            check.same("free() of too few", few.free(), n - 1);
            MovedFrames enough = withFreeFrames(n);
            check.same("vmalloc(" + n + ") with just enough", enough.vmalloc(n), 0);
            check.same("free() of just enough", enough.free(), 0);
        }
    }

    private static void noneBeginsThere() {
        check.sentence("vfree: IllegalArgumentException if none begins there");
        MovedFrames x = new MovedFrames();
        x.kmalloc(8);
        x.contig(1);
        x.vmalloc(1);
        x.vmalloc(3);
        x.vmalloc(2);
        x.vfree(0);
        for (int address = -40; address < 160; address++) {
            if (address != 16 && address != 64) {
                int wrong = address;
                check.badArgument("vfree(" + address + ")", () -> x.vfree(wrong));
            }
        }
        int[] wrong = {1007, 1008, 1023, 1024, 1040, -16, -1024, Integer.MIN_VALUE, Integer.MIN_VALUE + 16,
            Integer.MAX_VALUE, Integer.MAX_VALUE - 15};
        for (int address : wrong) {
            check.badArgument("vfree(" + address + ")", () -> x.vfree(address));
        }
        check.same("vfree(16)", x.vfree(16), 3);
        check.badArgument("vfree(16) twice", () -> x.vfree(16));
        check.same("vfree(64)", x.vfree(64), 2);
        check.badArgument("vfree(64) twice", () -> x.vfree(64));
        MovedFrames last = Arrange.allTaken();
        check.badArgument("vfree(1024) with page 63 taken", () -> last.vfree(1024));
        check.same("vfree(1008)", last.vfree(1008), 1);
    }

    private static void goneWithAllItsPages() {
        check.sentence("The range that begins at an address is gone, and its frames are free: how many pages it had");
        for (int n = 1; n <= 8; n++) {
            MovedFrames x = new MovedFrames();
            x.vmalloc(1);
            x.vmalloc(n);
            x.vmalloc(1);
            check.same("vfree of " + n, x.vfree(16), n);
            check.same("free()", x.free(), 62);
            for (int page = 1; page <= n; page++) {
                int gone = page;
                check.same("frame(-2, " + page + ")", x.frame(-2, page), -1);
                check.same("owner(" + page + ")", x.owner(page), 0);
                check.fault("load of page " + page, () -> x.load(-2, 16 * gone));
            }
            check.same("the range before it", x.frame(-2, 0), 0);
            check.same("the range behind it", x.frame(-2, n + 1), n + 1);
            check.same("vmalloc(" + n + ") in its place", x.vmalloc(n), 16);
        }
    }

    private static void loadAndStore() {
        check.sentence("The word at an address: .. -2: of a range");
        MovedFrames x = new MovedFrames();
        x.kmalloc(2);
        x.vmalloc(2);
        check.same("load(-2, 0) at first", x.load(-2, 0), 0);
        x.store(-2, 0, 5);
        x.store(-2, 15, 6);
        x.store(-2, 16, 7);
        x.store(-2, 31, Integer.MIN_VALUE);
        check.same("load(-2, 0)", x.load(-2, 0), 5);
        check.same("load(-2, 15)", x.load(-2, 15), 6);
        check.same("load(-2, 16)", x.load(-2, 16), 7);
        check.same("load(-2, 31)", x.load(-2, 31), Integer.MIN_VALUE);
        check.same("word(1, 15)", x.word(1, 15), 6);
        check.same("word(2, 0)", x.word(2, 0), 7);
        x.vfree(0);
        check.fault("load(-2, 0) of a range that is gone", () -> x.load(-2, 0));
        x.vmalloc(1);
        check.same("load(-2, 0) of a new range", x.load(-2, 0), 0);
    }

    private static void faults() {
        check.sentence("IndexOutOfBoundsException for a fault");
        MovedFrames x = new MovedFrames();
        x.vmalloc(1);
        x.vmalloc(1);
        x.vmalloc(1);
        x.vfree(16);
        for (int address = -40; address < 64; address++) {
            if (address < 0 || address / 16 == 1 || address >= 48) {
                int wrong = address;
                check.fault("load(-2, " + address + ")", () -> x.load(-2, wrong));
                check.fault("store(-2, " + address + ", 1)", () -> x.store(-2, wrong, 1));
            }
        }
        MovedFrames full = Arrange.allTaken();
        check.same("load(-2, 1023)", full.load(-2, 1023), 0);
        int[] wrong = {1024, 1025, 1040, 2047, -1, -15, -16, -17, -1024, Integer.MIN_VALUE,
            Integer.MIN_VALUE + 1, Integer.MAX_VALUE, Integer.MAX_VALUE - 15};
        for (int address : wrong) {
            check.fault("load(-2, " + address + ")", () -> full.load(-2, address));
            check.fault("store(-2, " + address + ", 1)", () -> full.store(-2, address, 1));
        }
    }

    /** All range pages are free; up to eight frames are, the others are in runs. */
    private static MovedFrames withFreeFrames(int n) {
        MovedFrames x = new MovedFrames();
        x.contig(5);
        x.contig(4);
        x.contig(3);
        for (int i = 0; i < 8 - n; i++) {
            x.contig(0);
        }
        return x;
    }
}
