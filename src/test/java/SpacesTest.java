/** Promises 6 to 9, and 10 and 11 for spaces. */
public final class SpacesTest {
    private static final int[] FIRST_PAGES = {Integer.MIN_VALUE, -65, -64, -63, -2, -1, 0, 1, 15, 16, 190, 191, 192,
        193, 194, 253, 254, 255, 256, 257, 320, Integer.MAX_VALUE - 63, Integer.MAX_VALUE - 1, Integer.MAX_VALUE};

    private static final Check check = new Check();

    public static void main(String[] args) {
        lowestSpaceThatIsNotThere();
        allFourAreThere();
        createWithoutFrames();
        destroyCounts();
        destroyCountsAllThatThereMayBe();
        destroyLeavesTheOthers();
        destroyLeavesWhatLiesBeside();
        destroyOfWhatIsNotThere();
        destroyForgetsRegions();
        pagesOfARegion();
        lengthsOfARegion();
        pagesThatAreNone();
        pagesInARegionAlready();
        regionsWithoutFrames();
        regionsOfASpaceThatIsNotThere();
        unmapCounts();
        unmapNeedsNoRegion();
        unmapOfPagesThatAreNone();
        unmapOfASpaceThatIsNotThere();
        touchedForTheFirstTime();
        tableBeforeThePage();
        oneTableForSixteenPages();
        touchedAgainAfterUnmap();
        askingDoesNotTouch();
        entriesOfTables();
        emptyTableIsFree();
        tableWithAnyEntryStays();
        emptyTablesOfALongUnmap();
        emptyRootStays();
        loadAndStore();
        spacesThatAreNone();
        faults();
        noFrameForThePage();
        noFramesForTableAndPage();
        framesThatAreNotNeeded();
        check.end();
    }

    /** Every set of spaces that are there. */
    private static void lowestSpaceThatIsNotThere() {
        check.sentence("A new space, the lowest that is not there: its number");
        for (int there = 0; there < 15; there++) {
            MovedFrames x = new MovedFrames();
            for (int space = 0; space < 4; space++) {
                check.same("create()", x.create(), space);
                check.same("owner of the root", x.owner(space), 1);
            }
            for (int space = 3; space >= 0; space--) {
                if ((there >> space & 1) == 0) {
                    x.destroy(space);
                }
            }
            int due = Integer.numberOfTrailingZeros(~there);
            check.same("create() beside " + Integer.toBinaryString(there), x.create(), due);
            check.fault("load of the new space", () -> x.load(due, 0));
        }
    }

    private static void allFourAreThere() {
        check.sentence("create: IllegalStateException if all four are");
        MovedFrames x = new MovedFrames();
        for (int i = 0; i < 4; i++) {
            x.create();
        }
        check.notEnough("a fifth create()", x::create);
        check.same("free()", x.free(), 60);
        x.destroy(3);
        check.same("create() in place of the last", x.create(), 3);
        check.notEnough("a fifth create() again", x::create);
    }

    private static void createWithoutFrames() {
        check.sentence("create: IllegalStateException if .. no frame is free");
        MovedFrames x = Arrange.allTaken();
        check.notEnough("create() with no frame free", x::create);
        check.badArgument("destroy(0) then", () -> x.destroy(0));
        x.vfree(16 * 63);
        check.same("create() with one frame free", x.create(), 0);
        check.same("owner(63)", x.owner(63), 1);
        check.notEnough("create() with none left", x::create);
        check.badArgument("destroy(1) then", () -> x.destroy(1));
        check.same("destroy(0)", x.destroy(0), 1);
    }

    private static void destroyCounts() {
        check.sentence("how many frames became free; (tables and the root counted;)");
        MovedFrames x = new MovedFrames();
        x.create();
        check.same("destroy of an empty space", x.destroy(0), 1);
        x.create();
        x.mmap(0, 0, 64);
        check.same("destroy of a space with a region", x.destroy(0), 1);
        x.create();
        x.mmap(0, 255, 1);
        x.load(0, 4095);
        check.same("destroy of one page, one table, the root", x.destroy(0), 3);
        x.create();
        x.mmap(0, 0, 64);
        x.load(0, 0);
        x.load(0, 16 * 15);
        x.load(0, 16 * 16);
        x.load(0, 16 * 63);
        check.same("free()", x.free(), 64 - 8);
        check.same("destroy of four pages, three tables, the root", x.destroy(0), 8);
        check.same("free() then", x.free(), 64);
        x.create();
        x.mmap(0, 0, 2);
        x.load(0, 0);
        x.load(0, 16);
        x.munmap(0, 0, 1);
        check.same("destroy after a munmap", x.destroy(0), 3);
    }

    /** All sixteen tables, and as many pages as there are frames for. */
    private static void destroyCountsAllThatThereMayBe() {
        check.sentence("how many frames became free; (tables and the root counted;)");
        MovedFrames x = new MovedFrames();
        x.create();
        for (int first = 0; first < 256; first += 64) {
            x.mmap(0, first, 64);
        }
        for (int page = 0; page < 256; page += 16) {
            x.load(0, 16 * page);
        }
        for (int page = 1; page < 256; page += 8) {
            if (x.free() > 0) {
                x.load(0, 16 * page);
            }
        }
        check.same("free()", x.free(), 0);
        check.same("destroy", x.destroy(0), 64);
        check.same("free() then", x.free(), 64);
        check.same("blocks(6) then", x.blocks(6), 1);
    }

    private static void destroyLeavesTheOthers() {
        check.sentence("A space is gone with its regions, pages and tables");
        MovedFrames x = new MovedFrames();
        for (int space = 0; space < 4; space++) {
            x.create();
            x.mmap(space, 100, 2);
            x.store(space, 1600, 50 + space);
        }
        check.same("destroy(1)", x.destroy(1), 3);
        check.same("destroy(3)", x.destroy(3), 3);
        check.same("load(0, 1600)", x.load(0, 1600), 50);
        check.same("load(2, 1600)", x.load(2, 1600), 52);
        check.same("load(0, 1616)", x.load(0, 1616), 0);
        check.badArgument("load(1, 1600)", () -> x.load(1, 1600));
        check.badArgument("store(3, 1600, 1)", () -> x.store(3, 1600, 1));
        check.same("frame(1, 100)", x.frame(1, 100), -1);
        check.same("frame(3, 100)", x.frame(3, 100), -1);
        check.same("free()", x.free(), 64 - 3 - 4);
    }

    /** The words next to the root and the table are no entries, though they look like some. */
    private static void destroyLeavesWhatLiesBeside() {
        check.sentence("A space is gone with its regions, pages and tables");
        MovedFrames x = Arrange.layout("rRrTrp");
        int[] beside = {15, 32, 47, 64};
        for (int address : beside) {
            x.store(-2, address, 51);
        }
        check.same("destroy", x.destroy(0), 3);
        check.same("owners", Arrange.owners(x), Arrange.ownersOf("r.r.r."));
        for (int address : beside) {
            check.same("load(-2, " + address + ")", x.load(-2, address), 51);
        }
    }

    private static void destroyOfWhatIsNotThere() {
        check.sentence("destroy: IllegalArgumentException if it is not there");
        int[] wrong = {-1, -2, -3, -4, 1, 2, 3, 4, 5, 256, Integer.MIN_VALUE, Integer.MAX_VALUE};
        for (int space : wrong) {
            MovedFrames x = new MovedFrames();
            x.create();
            check.badArgument("destroy(" + space + ")", () -> x.destroy(space));
        }
        MovedFrames x = new MovedFrames();
        check.badArgument("destroy(0) of a new object", () -> x.destroy(0));
        for (int i = 0; i < 4; i++) {
            x.create();
        }
        check.badArgument("destroy(4) with all four there", () -> x.destroy(4));
        check.badArgument("destroy(-1) with all four there", () -> x.destroy(-1));
        for (int i = 0; i < 4; i++) {
            int space = i;
            check.same("destroy(" + i + ")", x.destroy(i), 1);
            check.badArgument("destroy(" + i + ") twice", () -> x.destroy(space));
        }
    }

    private static void destroyForgetsRegions() {
        check.sentence("A space is gone with its regions, pages and tables");
        MovedFrames x = new MovedFrames();
        x.create();
        x.create();
        x.mmap(1, 0, 1);
        x.mmap(0, 0, 64);
        x.mmap(0, 192, 64);
        x.load(0, 0);
        x.destroy(0);
        x.create();
        check.same("load of page 0 of the other space", x.load(1, 0), 0);
        check.fault("load of page 0", () -> x.load(0, 0));
        check.fault("load of page 255", () -> x.load(0, 4095));
        x.mmap(0, 0, 64);
        x.mmap(0, 192, 64);
        check.same("frame(0, 0)", x.frame(0, 0), -1);
    }

    /** Just these pages, neither the one before nor the one behind, for lengths at both ends. */
    private static void pagesOfARegion() {
        check.sentence("The n pages of a space from a page on are in a region");
        int[][] regions = {{0, 1}, {0, 64}, {255, 1}, {192, 64}, {100, 1}, {100, 2}, {15, 2}, {16, 16}, {254, 2}};
        for (int[] region : regions) {
            MovedFrames x = new MovedFrames();
            x.create();
            x.create();
            x.mmap(0, region[0], region[1]);
            int last = region[0] + region[1] - 1;
            String told = " of " + region[1] + " from " + region[0];
            check.fault("the page before" + told, () -> x.load(0, 16 * region[0] - 1));
            check.fault("the page behind" + told, () -> x.load(0, 16 * last + 16));
            check.fault("another space's page" + told, () -> x.load(1, 16 * region[0]));
            check.same("the first word" + told, x.load(0, 16 * region[0]), 0);
            check.same("the last word" + told, x.load(0, 16 * last + 15), 0);
        }
    }

    private static void lengthsOfARegion() {
        check.sentence("mmap, munmap: IllegalArgumentException if .. n is not 1 .. 64");
        int[] wrong = {0, 65, -1, 66, 128, 256, 257, -64, Integer.MIN_VALUE, Integer.MIN_VALUE + 1,
            Integer.MAX_VALUE, Integer.MAX_VALUE - 1};
        for (int n : wrong) {
            MovedFrames x = new MovedFrames();
            x.create();
            check.badArgument("mmap(0, 0, " + n + ")", () -> x.mmap(0, 0, n));
            check.badArgument("munmap(0, 0, " + n + ")", () -> x.munmap(0, 0, n));
            check.badArgument("mmap(0, 128, " + n + ")", () -> x.mmap(0, 128, n));
            check.badArgument("munmap(0, 128, " + n + ")", () -> x.munmap(0, 128, n));
            check.fault("load(0, 0) after it", () -> x.load(0, 0));
        }
        for (int n = 1; n <= 64; n++) {
            MovedFrames x = new MovedFrames();
            x.create();
            x.mmap(0, 0, n);
            check.same("munmap(0, 0, " + n + ")", x.munmap(0, 0, n), 0);
        }
    }

    /** Every length for first pages near both ends, where the last page lies inside or outside. */
    private static void pagesThatAreNone() {
        check.sentence("mmap: IllegalArgumentException if .. one of them is no page");
        for (int page : FIRST_PAGES) {
            MovedFrames x = new MovedFrames();
            x.create();
            for (int n = 1; n <= 64; n++) {
                int length = n;
                String told = "mmap(0, " + page + ", " + n + ")";
                if (page >= 0 && (long) page + n <= 256) {
                    x.mmap(0, page, n);
                    check.badArgument(told + " twice", () -> x.mmap(0, page, length));
                    check.same("munmap after " + told, x.munmap(0, page, n), 0);
                } else {
                    check.badArgument(told, () -> x.mmap(0, page, length));
                }
            }
        }
    }

    /** A region of five pages, and all shorter and longer ones around it; once untouched, once not. */
    private static void pagesInARegionAlready() {
        check.sentence("mmap: IllegalArgumentException if .. one of them is .. in a region already");
        for (int touched = 0; touched < 2; touched++) {
            for (int page = 90; page <= 106; page++) {
                MovedFrames x = new MovedFrames();
                x.create();
                x.create();
                x.mmap(0, 100, 5);
                if (touched == 1) {
                    x.load(0, 1600);
                    x.load(0, 1664);
                }
                for (int n = 1; n <= 17; n++) {
                    int first = page;
                    int length = n;
                    String told = "mmap(0, " + page + ", " + n + ")";
                    if (page + n <= 100 || page >= 105) {
                        x.mmap(0, page, n);
                        check.same("munmap after " + told, x.munmap(0, page, n), 0);
                    } else {
                        check.badArgument(told, () -> x.mmap(0, first, length));
                    }
                    x.mmap(1, page, n);
                    x.munmap(1, page, n);
                }
                check.same("munmap of the five", x.munmap(0, 100, 5), 2 * touched);
            }
        }
    }

    private static void regionsWithoutFrames() {
        check.sentence("one that is TOUCHED for the first time since then gets a frame");
        MovedFrames x = Arrange.free(1L << 7);
        x.create();
        check.same("free()", x.free(), 0);
        x.mmap(0, 0, 64);
        x.mmap(0, 192, 64);
        check.same("munmap with no frame free", x.munmap(0, 0, 64), 0);
        check.notEnough("a touch with no frame free", () -> x.load(0, 4095));
    }

    private static void regionsOfASpaceThatIsNotThere() {
        check.sentence("mmap: IllegalArgumentException if the space is not there");
        int[] wrong = {-1, -2, -3, 1, 3, 4, 256, Integer.MIN_VALUE, Integer.MAX_VALUE};
        for (int space : wrong) {
            MovedFrames x = new MovedFrames();
            x.create();
            check.badArgument("mmap(" + space + ", 1, 1)", () -> x.mmap(space, 1, 1));
        }
        MovedFrames x = new MovedFrames();
        check.badArgument("mmap(0, 0, 1) of a new object", () -> x.mmap(0, 0, 1));
        x.create();
        x.mmap(0, 0, 1);
        x.destroy(0);
        check.badArgument("mmap(0, 5, 1) of a space that is gone", () -> x.mmap(0, 5, 1));
    }

    private static void unmapCounts() {
        check.sentence("how many of them had one; (tables that become free are not counted;)");
        MovedFrames x = new MovedFrames();
        x.create();
        x.mmap(0, 0, 40);
        x.load(0, 16 * 2);
        x.load(0, 16 * 3);
        x.load(0, 16 * 20);
        x.load(0, 16 * 39);
        check.same("free()", x.free(), 64 - 1 - 4 - 3);
        check.same("munmap of 3 .. 38", x.munmap(0, 3, 36), 2);
        check.same("free() then", x.free(), 64 - 1 - 2 - 2);
        check.same("frame(0, 3)", x.frame(0, 3), -1);
        check.same("frame(0, 2) stays", x.frame(0, 2), 2);
        check.same("frame(0, 39) stays", x.frame(0, 39), 7);
        check.fault("load of page 3", () -> x.load(0, 16 * 3));
        check.fault("load of page 38", () -> x.load(0, 16 * 38));
        check.same("munmap of it twice", x.munmap(0, 3, 36), 0);
        check.same("munmap of the rest", x.munmap(0, 0, 64), 2);
        check.same("free() at the end", x.free(), 63);
        x.mmap(0, 64, 64);
        for (int page = 64; page < 120; page++) {
            x.load(0, 16 * page);
        }
        check.same("munmap of 56 pages in four tables", x.munmap(0, 64, 64), 56);
        check.same("free() after that", x.free(), 63);
    }

    private static void unmapNeedsNoRegion() {
        check.sentence("munmap: (it need not be in a region)");
        MovedFrames x = new MovedFrames();
        x.create();
        check.same("munmap without any region", x.munmap(0, 0, 64), 0);
        check.same("munmap of the last page", x.munmap(0, 255, 1), 0);
        x.mmap(0, 1, 1);
        x.load(0, 16);
        check.same("munmap behind a region", x.munmap(0, 2, 64), 0);
        check.same("munmap before a region", x.munmap(0, 0, 1), 0);
        check.same("the page stays", x.frame(0, 1), 2);
        check.same("munmap over a region", x.munmap(0, 0, 3), 1);
        check.same("munmap of it twice", x.munmap(0, 0, 3), 0);
        x.mmap(0, 0, 3);
        check.same("munmap of pages that were not touched", x.munmap(0, 0, 3), 0);
    }

    private static void unmapOfPagesThatAreNone() {
        check.sentence("munmap: IllegalArgumentException if .. one of them is no page");
        for (int page : FIRST_PAGES) {
            MovedFrames x = new MovedFrames();
            x.create();
            for (int n = 1; n <= 64; n++) {
                int length = n;
                String told = "munmap(0, " + page + ", " + n + ")";
                if (page >= 0 && (long) page + n <= 256) {
                    check.same(told, x.munmap(0, page, n), 0);
                } else {
                    check.badArgument(told, () -> x.munmap(0, page, length));
                }
            }
        }
    }

    private static void unmapOfASpaceThatIsNotThere() {
        check.sentence("munmap: IllegalArgumentException if the space is not there");
        int[] wrong = {-1, -2, -3, 1, 3, 4, 256, Integer.MIN_VALUE, Integer.MAX_VALUE};
        for (int space : wrong) {
            MovedFrames x = new MovedFrames();
            x.create();
            check.badArgument("munmap(" + space + ", 0, 1)", () -> x.munmap(space, 0, 1));
        }
        MovedFrames x = new MovedFrames();
        check.badArgument("munmap(0, 0, 1) of a new object", () -> x.munmap(0, 0, 1));
        x.create();
        x.destroy(0);
        check.badArgument("munmap(0, 0, 1) of a space that is gone", () -> x.munmap(0, 0, 1));
    }

    private static void touchedForTheFirstTime() {
        check.sentence("one that is TOUCHED for the first time since then gets a frame");
        for (int byStore = 0; byStore < 2; byStore++) {
            MovedFrames x = new MovedFrames();
            x.create();
            x.mmap(0, 30, 2);
            check.same("free() after mmap", x.free(), 63);
            check.same("frame(0, 30) after mmap", x.frame(0, 30), -1);
            if (byStore == 1) {
                x.store(0, 480, 9);
            } else {
                check.same("load of the first word", x.load(0, 480), 0);
            }
            check.same("free() after the first touch", x.free(), 61);
            check.same("frame(0, 30)", x.frame(0, 30), 2);
            check.same("frame(0, 31) beside it", x.frame(0, 31), -1);
            x.load(0, 480);
            x.store(0, 495, 8);
            check.same("free() after the next touches", x.free(), 61);
            check.same("frame(0, 30) then", x.frame(0, 30), 2);
            check.same("its first word", x.load(0, 480), byStore == 1 ? 9 : 0);
        }
    }

    private static void tableBeforeThePage() {
        check.sentence("(and before that, if there is none, its table a frame)");
        MovedFrames x = Arrange.free(1L << 40);
        x.create();
        x.vfree(16 * 10);
        x.vfree(16 * 20);
        x.mmap(0, 255, 1);
        x.load(0, 4095);
        check.same("the table has the first frame given", x.owner(10), 1);
        check.same("the page has the second", x.owner(20), 4);
        check.same("the root's entry", x.word(40, 15), 11);
        check.same("the table's entry", x.word(10, 15), 21);
    }

    private static void oneTableForSixteenPages() {
        check.sentence("the table of the pages 16 * i .. 16 * i + 15");
        MovedFrames x = new MovedFrames();
        x.create();
        x.mmap(0, 0, 64);
        x.load(0, 0);
        check.same("free() after page 0", x.free(), 61);
        x.load(0, 16 * 15);
        check.same("free() after page 15", x.free(), 60);
        x.load(0, 16 * 16);
        check.same("free() after page 16", x.free(), 58);
        x.load(0, 16 * 31);
        check.same("free() after page 31", x.free(), 57);
        x.load(0, 16 * 47);
        check.same("free() after page 47", x.free(), 55);
    }

    private static void touchedAgainAfterUnmap() {
        check.sentence("one that is TOUCHED for the first time since then gets a frame");
        MovedFrames x = new MovedFrames();
        x.create();
        x.mmap(0, 0, 2);
        x.store(0, 0, 7);
        x.store(0, 16, 8);
        x.munmap(0, 0, 1);
        check.fault("load of page 0", () -> x.load(0, 0));
        x.mmap(0, 0, 1);
        check.same("frame(0, 0) before it is touched", x.frame(0, 0), -1);
        check.same("free() before it is touched", x.free(), 61);
        check.same("load(0, 0)", x.load(0, 0), 0);
        check.same("frame(0, 0)", x.frame(0, 0), 2);
        check.same("load(0, 16)", x.load(0, 16), 8);
    }

    private static void askingDoesNotTouch() {
        check.sentence("one that is TOUCHED for the first time since then gets a frame");
        MovedFrames x = new MovedFrames();
        x.create();
        x.mmap(0, 0, 64);
        for (int page = 0; page < 64; page++) {
            check.same("frame(0, " + page + ")", x.frame(0, page), -1);
        }
        check.same("word(0, 0)", x.word(0, 0), 0);
        check.same("free()", x.free(), 63);
    }

    private static void entriesOfTables() {
        check.sentence("entry i is 0, or 1 + the frame of the table ..; an entry of that is 0, or 1 + the page's frame");
        MovedFrames x = new MovedFrames();
        x.create();
        x.mmap(0, 0, 64);
        x.mmap(0, 192, 64);
        x.load(0, 16 * 255);
        check.same("the root's entry 15", x.word(0, 15), 1 + 1);
        check.same("the table's entry 15", x.word(1, 15), 1 + 2);
        check.same("owner of the table", x.owner(1), 1);
        check.same("owner of the page", x.owner(2), 4);
        x.load(0, 16 * 240);
        check.same("the table's entry 0", x.word(1, 0), 1 + 3);
        x.load(0, 16 * 17);
        check.same("the root's entry 1", x.word(0, 1), 1 + 4);
        check.same("the second table's entry 1", x.word(4, 1), 1 + 5);
        check.same("frame(0, 17)", x.frame(0, 17), 5);
        for (int entry = 2; entry < 15; entry++) {
            check.same("the root's entry " + entry, x.word(0, entry), 0);
            check.same("the table's entry " + entry, x.word(1, entry), 0);
        }
    }

    private static void emptyTableIsFree() {
        check.sentence("A table below the root without entries is free at once");
        MovedFrames x = new MovedFrames();
        x.create();
        x.mmap(0, 0, 32);
        x.load(0, 0);
        x.load(0, 16);
        x.load(0, 256);
        check.same("munmap of page 0", x.munmap(0, 0, 1), 1);
        check.same("the table with an entry left", x.owner(1), 1);
        check.same("the table's entry 0", x.word(1, 0), 0);
        check.same("the root's entry 0 with an entry left", x.word(0, 0), 2);
        check.same("munmap of page 1", x.munmap(0, 1, 1), 1);
        check.same("the table without entries", x.owner(1), 0);
        check.same("the table's entry 1", x.word(1, 1), 0);
        check.same("the root's entry 0", x.word(0, 0), 0);
        check.same("the root's entry 1", x.word(0, 1), 1 + 4);
        check.same("free()", x.free(), 61);
        check.same("the free frame is given again", x.kmalloc(8), 16);
        x.mmap(0, 0, 1);
        x.load(0, 0);
        check.same("the page has a new table", x.word(0, 0), 1 + 2);
        check.same("the page has a new frame", x.frame(0, 0), 3);
    }

    /** Each entry as the last one; the words next to the table are no entries, though not 0. */
    private static void tableWithAnyEntryStays() {
        check.sentence("A table below the root without entries is free at once");
        for (int last = 0; last < 16; last++) {
            MovedFrames x = Arrange.layout("RrTr" + "p".repeat(16));
            x.store(-2, 16 * 1 + 15, 51);
            x.store(-2, 16 * 3, 51);
            for (int page = 0; page < 16; page++) {
                if (page != last) {
                    check.same("munmap of page " + page, x.munmap(0, page, 1), 1);
                }
            }
            check.same("the table with entry " + last, x.owner(2), 1);
            check.same("the root's entry", x.word(0, 0), 3);
            check.same("frame(0, " + last + ")", x.frame(0, last), 4 + last);
            check.same("munmap of page " + last, x.munmap(0, last, 1), 1);
            check.same("the table without entries", x.owner(2), 0);
            check.same("the root's entry then", x.word(0, 0), 0);
            check.same("free()", x.free(), 17);
        }
    }

    private static void emptyTablesOfALongUnmap() {
        check.sentence("A table below the root without entries is free at once");
        MovedFrames x = new MovedFrames();
        x.create();
        x.mmap(0, 8, 56);
        for (int page = 8; page < 64; page += 8) {
            x.load(0, 16 * page);
        }
        check.same("free() with seven pages in four tables", x.free(), 64 - 1 - 7 - 4);
        check.same("munmap of 16 .. 55", x.munmap(0, 16, 40), 5);
        check.same("free() with two pages in two tables", x.free(), 64 - 1 - 2 - 2);
        int[] due = {2, 0, 0, 10};
        for (int entry = 0; entry < 4; entry++) {
            check.same("the root's entry " + entry, x.word(0, entry), due[entry]);
        }
        check.same("frame(0, 8)", x.frame(0, 8), 2);
        check.same("owner of the last table", x.owner(9), 1);
    }

    private static void emptyRootStays() {
        check.sentence("A table below the root without entries is free at once");
        MovedFrames x = new MovedFrames();
        x.create();
        check.same("a root that never had an entry", x.owner(0), 1);
        x.mmap(0, 16, 1);
        x.load(0, 256);
        x.munmap(0, 16, 1);
        check.same("a root that has none any more", x.owner(0), 1);
        check.same("free()", x.free(), 63);
        check.same("destroy of it", x.destroy(0), 1);
        check.same("the root of a space that is gone", x.owner(0), 0);
    }

    private static void loadAndStore() {
        check.sentence("The word at an address: of a space 0 .. 3 (16 * page + word; touches the page)");
        MovedFrames x = new MovedFrames();
        for (int space = 0; space < 4; space++) {
            x.create();
            x.mmap(space, 5, 2);
            x.mmap(space, 255, 1);
        }
        int[] values = {Integer.MAX_VALUE, Integer.MIN_VALUE, -1, 1};
        for (int space = 0; space < 4; space++) {
            x.store(space, 16 * 5 + 15, values[space]);
            x.store(space, 16 * 6, 30 + space);
            x.store(space, 4095, 60 + space);
        }
        for (int space = 0; space < 4; space++) {
            check.same("load of the last word of page 5", x.load(space, 16 * 5 + 15), values[space]);
            check.same("load of the first word of page 6", x.load(space, 16 * 6), 30 + space);
            check.same("load of the last word of all", x.load(space, 4095), 60 + space);
            check.same("load of another word", x.load(space, 16 * 5), 0);
            check.same("word 15 of the frame", x.word(x.frame(space, 5), 15), values[space]);
            check.same("word 0 of the frame", x.word(x.frame(space, 6), 0), 30 + space);
        }
        x.store(0, 4095, 0);
        check.same("load of a word that became 0", x.load(0, 4095), 0);
        check.same("load of another space's word", x.load(1, 4095), 61);
    }

    private static void spacesThatAreNone() {
        check.sentence("IllegalArgumentException for another space, or one that is not there");
        int[] wrong = {-3, -4, 1, 2, 3, 4, 5, 256, Integer.MIN_VALUE, Integer.MAX_VALUE};
        for (int space : wrong) {
            MovedFrames x = new MovedFrames();
            x.create();
            x.mmap(0, 0, 1);
            x.kmalloc(8);
            x.vmalloc(1);
            check.badArgument("load(" + space + ", 0)", () -> x.load(space, 0));
            check.badArgument("store(" + space + ", 0, 1)", () -> x.store(space, 0, 1));
        }
        MovedFrames x = new MovedFrames();
        x.create();
        x.mmap(0, 0, 1);
        x.load(0, 0);
        x.destroy(0);
        check.badArgument("load of a space that is gone", () -> x.load(0, 0));
        check.badArgument("store of a space that is gone", () -> x.store(0, 0, 1));
    }

    /** Pages 0 and 255 are in a region, the neighbour spaces are in regions all over. */
    private static void faults() {
        check.sentence("IndexOutOfBoundsException for a fault");
        MovedFrames x = new MovedFrames();
        for (int space = 0; space < 3; space++) {
            x.create();
        }
        for (int first = 0; first < 256; first += 64) {
            x.mmap(0, first, 64);
            x.mmap(2, first, 64);
        }
        x.mmap(1, 0, 1);
        x.mmap(1, 255, 1);
        x.load(1, 0);
        for (int address = -40; address < 64; address++) {
            int wrong = address;
            if (address < 0 || address >= 16) {
                check.fault("load(1, " + address + ")", () -> x.load(1, wrong));
                check.fault("store(1, " + address + ", 1)", () -> x.store(1, wrong, 1));
            }
        }
        int[] wrong = {16 * 254, 16 * 254 + 15, 4096, 4097, 4111, 4112, 8191, 8192, -256, -4096, -4095,
            Integer.MIN_VALUE, Integer.MIN_VALUE + 1, Integer.MIN_VALUE + 4095, Integer.MAX_VALUE,
            Integer.MAX_VALUE - 15, Integer.MAX_VALUE - 4095};
        for (int address : wrong) {
            check.fault("load(1, " + address + ")", () -> x.load(1, address));
            check.fault("store(1, " + address + ", 1)", () -> x.store(1, address, 1));
        }
        check.same("load(1, 15)", x.load(1, 15), 0);
        check.same("load(1, 4080)", x.load(1, 4080), 0);
        check.same("load(1, 4095)", x.load(1, 4095), 0);
    }

    private static void noFrameForThePage() {
        check.sentence("IllegalStateException if frames are needed and not free");
        MovedFrames x = Arrange.layout("RTp");
        check.notEnough("load of a page whose table is there", () -> x.load(0, 16));
        check.notEnough("store of a page whose table is there", () -> x.store(0, 16, 1));
        check.same("frame(0, 1)", x.frame(0, 1), -1);
        x.vfree(16 * 50);
        check.same("load with one frame free", x.load(0, 16), 0);
        check.same("frame(0, 1) then", x.frame(0, 1), 50);
        check.notEnough("load of the next page", () -> x.load(0, 32));
    }

    private static void noFramesForTableAndPage() {
        check.sentence("IllegalStateException if frames are needed and not free");
        MovedFrames x = Arrange.layout("RTp");
        x.mmap(0, 100, 1);
        check.notEnough("load of a page without a table, no frame free", () -> x.load(0, 1600));
        check.notEnough("store of a page without a table, no frame free", () -> x.store(0, 1600, 1));
        x.vfree(16 * 50);
        check.notEnough("load of a page without a table, one frame free", () -> x.load(0, 1600));
        check.notEnough("store of a page without a table, one frame free", () -> x.store(0, 1600, 1));
        check.same("free()", x.free(), 1);
        check.same("owner(50)", x.owner(50), 0);
        check.same("the root's entry", x.word(0, 6), 0);
        x.vfree(16 * 60);
        check.same("load with two frames free", x.load(0, 1600), 0);
        check.same("owner(50) is the table's", x.owner(50), 1);
        check.same("owner(60) is the page's", x.owner(60), 4);
    }

    private static void framesThatAreNotNeeded() {
        check.sentence("IllegalStateException if frames are needed and not free");
        MovedFrames x = Arrange.layout("RTpSr");
        check.same("free()", x.free(), 0);
        check.same("load of a page that has a frame", x.load(0, 0), 1002);
        x.store(0, 15, 4);
        check.same("load of what was stored", x.load(0, 15), 4);
        check.same("load of an object", x.load(-1, 48), 0);
        check.same("load of a range", x.load(-2, 64), 0);
        x.store(-1, 48, 5);
        x.store(-2, 64, 6);
        check.same("load of the object then", x.load(-1, 48), 5);
        check.same("load of the range then", x.load(-2, 64), 6);
    }
}
