/** Promises 6 to 9, and 10 and 11 for spaces. */
public final class SpacesTest {
    private static final Check check = new Check();

    public static void main(String[] args) {
        lowestSpace();
        createWithoutFrames();
        destroyCounts();
        destroyForgetsRegions();
        destroyLeavesTheWords();
        wrongSpaces();
        wrongPages();
        regionsDoNotOverlap();
        unmapCounts();
        unmapWithoutRegion();
        tablesInFrames();
        emptyTableIsFree();
        touchedAgainAfterUnmap();
        loadAndStore();
        faults();
        orderOfExceptions();
        tooFewFramesToTouch();
        check.end();
    }

    private static void lowestSpace() {
        MovedFrames x = new MovedFrames();
        for (int space = 0; space < 4; space++) {
            check.same("create()", x.create(), space);
            check.same("owner of the root", x.owner(space), 1);
        }
        check.notEnough("a fifth create()", x::create);
        check.changesNothing("a fifth create()", x, x::create);
        x.destroy(2);
        x.destroy(1);
        check.same("create() in the lowest gap", x.create(), 1);
        check.same("create() in the next gap", x.create(), 2);
        check.notEnough("create() with all four there", x::create);
    }

    private static void createWithoutFrames() {
        MovedFrames x = new MovedFrames();
        x.contig(5);
        x.contig(5);
        check.notEnough("create() with no frame free", x::create);
        check.badArgument("destroy(0) of a space that is not there", () -> x.destroy(0));
        x.release(0);
        check.same("create()", x.create(), 0);
    }

    private static void destroyCounts() {
        MovedFrames x = new MovedFrames();
        x.create();
        x.create();
        check.same("destroy of an empty space", x.destroy(0), 1);
        x.create();
        x.mmap(0, 0, 64);
        x.mmap(1, 0, 64);
        x.load(0, 0);
        x.load(0, 16 * 15);
        x.load(0, 16 * 16);
        x.load(0, 16 * 63);
        x.load(1, 0);
        check.same("free()", x.free(), 64 - 2 - 7 - 2);
        check.same("destroy: four pages, three tables, the root", x.destroy(0), 8);
        check.same("free() then", x.free(), 64 - 3);
        check.same("the page of the other space", x.frame(1, 0) >= 0 ? 1 : 0, 1);
        check.badArgument("destroy twice", () -> x.destroy(0));
        check.badArgument("load of a space that is gone", () -> x.load(0, 0));
        check.same("frame of a space that is gone", x.frame(0, 0), -1);
    }

    private static void destroyForgetsRegions() {
        MovedFrames x = new MovedFrames();
        x.create();
        x.create();
        x.mmap(1, 0, 1);
        x.mmap(0, 0, 64);
        x.mmap(0, 192, 64);
        x.load(0, 0);
        x.destroy(0);
        x.create();
        check.same("load of page 0 of the other space", x.load(1, 0), 0);
        check.fault("load of page 0", () -> x.load(0, 0));
        check.fault("load of page 255", () -> x.load(0, 4095));
        x.mmap(0, 0, 64);
        x.mmap(0, 192, 64);
        check.same("frame(0, 0)", x.frame(0, 0), -1);
    }

    /** Words stay when a frame becomes free, those of the tables too. */
    private static void destroyLeavesTheWords() {
        MovedFrames x = new MovedFrames();
        x.create();
        x.mmap(0, 16, 1);
        x.store(0, 16 * 16 + 3, 44);
        x.destroy(0);
        check.same("the root's entry", x.word(0, 1), 2);
        check.same("the table's entry", x.word(1, 0), 3);
        check.same("the page's word", x.word(2, 3), 44);
        check.same("free()", x.free(), 64);
    }

    private static void wrongSpaces() {
        MovedFrames x = new MovedFrames();
        x.create();
        x.mmap(0, 0, 1);
        int[] wrong = {-1, -2, 1, 3, 4, Integer.MIN_VALUE, Integer.MAX_VALUE};
        for (int space : wrong) {
            check.badArgument("destroy(" + space + ")", () -> x.destroy(space));
            check.badArgument("mmap(" + space + ", 1, 1)", () -> x.mmap(space, 1, 1));
            check.badArgument("munmap(" + space + ", 0, 1)", () -> x.munmap(space, 0, 1));
        }
        int[] noMemory = {-3, 1, 3, 4, Integer.MIN_VALUE, Integer.MAX_VALUE};
        for (int space : noMemory) {
            check.badArgument("load(" + space + ", 0)", () -> x.load(space, 0));
            check.badArgument("store(" + space + ", 0, 1)", () -> x.store(space, 0, 1));
        }
    }

    private static void wrongPages() {
        MovedFrames x = new MovedFrames();
        x.create();
        int[][] wrong = {{0, 0}, {0, 65}, {0, -1}, {-1, 1}, {-1, 2}, {256, 1}, {255, 2}, {193, 64},
            {Integer.MAX_VALUE, 1}, {Integer.MAX_VALUE, 64}, {Integer.MIN_VALUE, 1},
            {0, Integer.MAX_VALUE}, {0, Integer.MIN_VALUE}, {Integer.MAX_VALUE, Integer.MAX_VALUE}};
        for (int[] w : wrong) {
            String told = "(0, " + w[0] + ", " + w[1] + ")";
            check.badArgument("mmap" + told, () -> x.mmap(0, w[0], w[1]));
            check.badArgument("munmap" + told, () -> x.munmap(0, w[0], w[1]));
        }
        x.mmap(0, 192, 64);
        x.mmap(0, 0, 64);
        x.mmap(0, 191, 1);
        check.same("munmap(0, 192, 64)", x.munmap(0, 192, 64), 0);
        check.same("munmap(0, 255, 1)", x.munmap(0, 255, 1), 0);
    }

    private static void regionsDoNotOverlap() {
        MovedFrames x = new MovedFrames();
        x.create();
        x.create();
        x.mmap(0, 10, 4);
        check.badArgument("mmap over its first page", () -> x.mmap(0, 8, 3));
        check.badArgument("mmap over its last page", () -> x.mmap(0, 13, 1));
        check.badArgument("mmap over all of it", () -> x.mmap(0, 0, 64));
        check.fault("page 8 after a mmap that threw", () -> x.load(0, 16 * 8));
        x.mmap(0, 8, 2);
        x.mmap(0, 14, 1);
        x.mmap(1, 10, 4);
        x.munmap(0, 11, 2);
        check.badArgument("mmap over the rest", () -> x.mmap(0, 10, 2));
        x.mmap(0, 11, 2);
        check.badArgument("mmap of it twice", () -> x.mmap(0, 11, 2));
    }

    private static void unmapCounts() {
        MovedFrames x = new MovedFrames();
        x.create();
        x.mmap(0, 0, 40);
        x.load(0, 16 * 2);
        x.load(0, 16 * 3);
        x.load(0, 16 * 20);
        x.load(0, 16 * 39);
        check.same("free()", x.free(), 64 - 1 - 4 - 3);
        check.same("munmap of 3 .. 38", x.munmap(0, 3, 36), 2);
        check.same("free() then", x.free(), 64 - 1 - 2 - 2);
        check.same("frame(0, 3)", x.frame(0, 3), -1);
        check.same("frame(0, 39) stays", x.frame(0, 39) >= 0 ? 1 : 0, 1);
        check.fault("load of page 38", () -> x.load(0, 16 * 38));
        check.same("munmap of it twice", x.munmap(0, 3, 36), 0);
        check.same("munmap of the rest", x.munmap(0, 0, 64), 2);
        check.same("free() at the end", x.free(), 63);
    }

    private static void unmapWithoutRegion() {
        MovedFrames x = new MovedFrames();
        x.create();
        x.mmap(0, 1, 1);
        x.load(0, 16);
        check.same("munmap beside a region", x.munmap(0, 2, 64), 0);
        check.same("munmap over a region", x.munmap(0, 0, 3), 1);
    }

    private static void tablesInFrames() {
        MovedFrames x = new MovedFrames();
        x.create();
        x.mmap(0, 0, 64);
        x.mmap(0, 192, 64);
        x.load(0, 16 * 255);
        check.same("the root's entry 15", x.word(0, 15), 1 + 1);
        check.same("the table's entry 15", x.word(1, 15), 1 + 2);
        check.same("owner of the table", x.owner(1), 1);
        check.same("owner of the page", x.owner(2), 4);
        x.load(0, 16 * 240);
        check.same("the table's entry 0", x.word(1, 0), 1 + 3);
        x.load(0, 16 * 17);
        check.same("the root's entry 1", x.word(0, 1), 1 + 4);
        check.same("the second table's entry 1", x.word(4, 1), 1 + 5);
        check.same("frame(0, 17)", x.frame(0, 17), 5);
        for (int entry = 2; entry < 15; entry++) {
            check.same("the root's entry " + entry, x.word(0, entry), 0);
        }
    }

    private static void emptyTableIsFree() {
        MovedFrames x = new MovedFrames();
        x.create();
        x.mmap(0, 0, 32);
        x.load(0, 0);
        x.load(0, 16);
        x.load(0, 256);
        check.same("munmap of page 0", x.munmap(0, 0, 1), 1);
        check.same("the table with an entry left", x.owner(1), 1);
        check.same("the table's entry 0", x.word(1, 0), 0);
        check.same("munmap of page 1", x.munmap(0, 1, 1), 1);
        check.same("the table without entries", x.owner(1), 0);
        check.same("the root's entry 0", x.word(0, 0), 0);
        check.same("the root's entry 1", x.word(0, 1), 1 + 4);
        check.same("munmap of page 16", x.munmap(0, 16, 1), 1);
        check.same("the root without entries", x.owner(0), 1);
        check.same("destroy of it", x.destroy(0), 1);
    }

    private static void touchedAgainAfterUnmap() {
        MovedFrames x = new MovedFrames();
        x.create();
        x.mmap(0, 0, 2);
        x.store(0, 0, 7);
        x.store(0, 16, 8);
        x.munmap(0, 0, 1);
        check.fault("load of page 0", () -> x.load(0, 0));
        x.mmap(0, 0, 1);
        check.same("frame(0, 0) before it is touched", x.frame(0, 0), -1);
        check.same("free() before it is touched", x.free(), 61);
        check.same("load(0, 0)", x.load(0, 0), 0);
        check.same("frame(0, 0)", x.frame(0, 0), 2);
        check.same("load(0, 16)", x.load(0, 16), 8);
    }

    private static void loadAndStore() {
        MovedFrames x = new MovedFrames();
        x.create();
        x.create();
        x.mmap(0, 5, 2);
        x.mmap(1, 5, 2);
        check.same("free() after mmap", x.free(), 62);
        x.store(0, 16 * 5 + 15, Integer.MAX_VALUE);
        x.store(1, 16 * 5 + 15, -1);
        x.store(0, 16 * 6, 3);
        check.same("load of space 0", x.load(0, 16 * 5 + 15), Integer.MAX_VALUE);
        check.same("load of space 1", x.load(1, 16 * 5 + 15), -1);
        check.same("load of the next page", x.load(0, 16 * 6), 3);
        check.same("load of another word", x.load(0, 16 * 5), 0);
        check.same("free()", x.free(), 64 - 4 - 3);
        check.same("frame(0, 5)", x.frame(0, 5), 3);
        check.same("frame(1, 5)", x.frame(1, 5), 5);
        check.same("frame(0, 6)", x.frame(0, 6), 6);
        check.same("word(3, 15)", x.word(3, 15), Integer.MAX_VALUE);
    }

    private static void faults() {
        MovedFrames x = new MovedFrames();
        x.create();
        x.create();
        x.mmap(0, 0, 1);
        x.mmap(0, 255, 1);
        x.mmap(1, 0, 64);
        x.mmap(1, 192, 64);
        x.load(0, 0);
        int[] wrong = {-1, -15, -16, -17, 16, 31, 16 * 254 + 15, 4096, 4097, 16 * 512,
            Integer.MIN_VALUE, Integer.MAX_VALUE};
        for (int address : wrong) {
            check.fault("load(0, " + address + ")", () -> x.load(0, address));
            check.fault("store(0, " + address + ")", () -> x.store(0, address, 1));
            check.changesNothing("load(0, " + address + ")", x, () -> x.load(0, address));
        }
        check.same("load(0, 4095)", x.load(0, 4095), 0);
        check.same("load(0, 15)", x.load(0, 15), 0);
    }

    private static void orderOfExceptions() {
        MovedFrames x = new MovedFrames();
        x.create();
        x.mmap(0, 0, 1);
        x.contig(5);
        x.contig(4);
        x.contig(3);
        x.contig(2);
        x.contig(1);
        x.contig(0);
        check.same("free()", x.free(), 0);
        check.badArgument("a space that is not there, a fault, no frame", () -> x.load(1, 5000));
        check.fault("a fault, no frame", () -> x.load(0, 16));
        check.notEnough("no frame", () -> x.load(0, 0));
        check.badArgument("store likewise", () -> x.store(1, 5000, 1));
        check.fault("store likewise", () -> x.store(0, 16, 1));
        check.notEnough("store likewise", () -> x.store(0, 0, 1));
    }

    private static void tooFewFramesToTouch() {
        MovedFrames x = new MovedFrames();
        x.create();
        x.mmap(0, 0, 32);
        x.contig(5);
        x.contig(4);
        x.contig(3);
        x.contig(2);
        x.contig(0);
        check.same("free()", x.free(), 2);
        x.load(0, 0);
        check.same("free() then", x.free(), 0);
        check.notEnough("a page with no frame", () -> x.load(0, 16));
        check.changesNothing("a page with no frame", x, () -> x.store(0, 16, 1));
        check.same("a page that has one", x.load(0, 0), 0);
        x.release(1);
        check.notEnough("a page and a table with one frame", () -> x.load(0, 256));
        check.changesNothing("a page and a table with one frame", x, () -> x.store(0, 256, 1));
        check.same("a page with one frame", x.load(0, 16), 0);
        check.same("frame(0, 1)", x.frame(0, 1), 1);
        x.munmap(0, 0, 1);
        check.notEnough("a second table with one frame", () -> x.load(0, 256));
        x.munmap(0, 1, 1);
        check.same("a page and a table with three frames", x.load(0, 256), 0);
    }
}
