/** Promises 12, 13 and 19: runs, and the pages that are moved for them. */
public final class RunsTest {
    private static final Check check = new Check();

    public static void main(String[] args) {
        orders();
        wrongOrders();
        onlyBeginningsAreReleased();
        lowestBlockNotSmallest();
        onlyPagesAreMoved();
        movesByRisingNumbers();
        moveOfSeveralSpaces();
        destinationsBelowAndAbove();
        asManyFreeFramesAsPages();
        oneFreeFrameTooFew();
        runOfOnePage();
        movedPageIsUsedOn();
        wordsOfARun();
        check.end();
    }

    private static void orders() {
        for (int order = 0; order <= 5; order++) {
            MovedFrames x = new MovedFrames();
            int n = 1 << order;
            check.same("contig(" + order + ")", x.contig(order), 0);
            check.same("the next contig(" + order + ")", x.contig(order), n);
            check.same("free()", x.free(), 64 - 2 * n);
            for (int frame = 0; frame < 2 * n; frame++) {
                check.same("owner(" + frame + ")", x.owner(frame), 5);
            }
            check.same("release(0)", x.release(0), n);
            check.same("owner(0)", x.owner(0), 0);
            check.same("owner(n)", x.owner(n), 5);
            check.same("release(n)", x.release(n), n);
            check.same("blocks(6)", x.blocks(6), 1);
            check.same("moved()", x.moved(), 0);
        }
    }

    private static void wrongOrders() {
        MovedFrames x = new MovedFrames();
        int[] wrong = {-1, 6, 7, 32, -32, Integer.MIN_VALUE, Integer.MAX_VALUE};
        for (int order : wrong) {
            check.badArgument("contig(" + order + ")", () -> x.contig(order));
        }
        x.contig(5);
        x.contig(5);
        check.badArgument("contig(6) with no frame free", () -> x.contig(6));
        check.notEnough("contig(0) with no frame free", () -> x.contig(0));
    }

    private static void onlyBeginningsAreReleased() {
        MovedFrames x = new MovedFrames();
        x.contig(2);
        x.kmalloc(1);
        int[] wrong = {1, 2, 3, 4, 5, 63, 64, -1, Integer.MIN_VALUE, Integer.MAX_VALUE};
        for (int frame : wrong) {
            check.badArgument("release(" + frame + ")", () -> x.release(frame));
            check.changesNothing("release(" + frame + ")", x, () -> x.release(frame));
        }
        check.same("release(0)", x.release(0), 4);
        check.badArgument("release(0) twice", () -> x.release(0));
        check.same("a shorter run in its place", x.contig(1), 0);
        check.same("release of that", x.release(0), 2);
    }

    /** A run takes the lowest able block, where a frame alone would come from the smallest one. */
    private static void lowestBlockNotSmallest() {
        MovedFrames x = new MovedFrames();
        x.vmalloc(6);
        x.vmalloc(1);
        x.vfree(0);
        check.same("contig(0)", x.contig(0), 0);
        check.same("contig(1)", x.contig(1), 2);
        check.same("kmalloc", x.kmalloc(1), 16);
    }

    private static void onlyPagesAreMoved() {
        MovedFrames x = new MovedFrames();
        x.create();
        x.kmalloc(8);
        x.vmalloc(1);
        x.contig(0);
        check.same("contig(2) behind table, slab, range and run", x.contig(2), 4);
        check.same("moved()", x.moved(), 0);
        x.kfree(16);
        check.same("contig(0) where the slab was", x.contig(0), 1);
        x.vfree(0);
        check.same("contig(0) where the range was", x.contig(0), 2);
    }

    private static void movesByRisingNumbers() {
        MovedFrames x = withPages(6);
        x.munmap(0, 1, 1);
        check.same("owner(3)", x.owner(3), 0);
        check.same("contig(2)", x.contig(2), 4);
        check.same("moved()", x.moved(), 4);
        int[] due = {2, -1, 3, 8, 9, 10};
        for (int page = 0; page < due.length; page++) {
            check.same("frame(0, " + page + ")", x.frame(0, page), due[page]);
            check.same("the table's entry " + page, x.word(1, page), 1 + due[page]);
        }
        for (int page = 2; page < 6; page++) {
            check.same("the first word of page " + page, x.load(0, 16 * page), 100 + page);
            check.same("the last word of page " + page, x.load(0, 16 * page + 15), 200 + page);
            check.same("owner of page " + page, x.owner(x.frame(0, page)), 4);
        }
    }

    private static void moveOfSeveralSpaces() {
        MovedFrames x = new MovedFrames();
        x.create();
        x.create();
        x.mmap(0, 3, 2);
        x.mmap(1, 3, 2);
        x.store(0, 48, 1);
        x.store(1, 48, 2);
        x.store(0, 64, 3);
        x.store(1, 64, 4);
        check.same("frame(0, 4)", x.frame(0, 4), 6);
        check.same("frame(1, 4)", x.frame(1, 4), 7);
        check.same("contig(1)", x.contig(1), 6);
        check.same("frame(0, 4) moved", x.frame(0, 4), 8);
        check.same("frame(1, 4) moved", x.frame(1, 4), 9);
        check.same("load(0, 64)", x.load(0, 64), 3);
        check.same("load(1, 64)", x.load(1, 64), 4);
        check.same("load(0, 48)", x.load(0, 48), 1);
        check.same("load(1, 48)", x.load(1, 48), 2);
        check.same("contig(0)", x.contig(0), 3);
        check.same("frame(0, 3) moved", x.frame(0, 3), 10);
        check.same("moved()", x.moved(), 3);
    }

    /** A page goes to the lowest free frame, not to the one that would be given. */
    private static void destinationsBelowAndAbove() {
        MovedFrames x = withPages(2);
        check.same("vmalloc", x.vmalloc(4), 0);
        check.same("kmalloc in frame 8", x.kmalloc(8), 128);
        x.vfree(0);
        check.freeBlocks("4 .. 7 and 9 .. free", x, 1, 1, 2, 0, 1, 1, 0);
        check.same("contig(1)", x.contig(1), 2);
        check.same("frame(0, 0)", x.frame(0, 0), 4);
        check.same("frame(0, 1)", x.frame(0, 1), 5);
        check.same("the next frame given", x.kmalloc(2), 16 * 9);
    }

    private static void asManyFreeFramesAsPages() {
        MovedFrames x = withPages(14);
        x.contig(5);
        check.same("the upper half is a run", x.owner(32), 5);
        x.vmalloc(8);
        check.same("free()", x.free(), 8);
        check.same("contig(3) moves eight pages to eight frames", x.contig(3), 8);
        check.same("moved()", x.moved(), 8);
        check.same("free() then", x.free(), 0);
        for (int page = 0; page < 14; page++) {
            check.same("load of page " + page, x.load(0, 16 * page), 100 + page);
        }
        check.same("frame(0, 6)", x.frame(0, 6), 24);
        check.same("frame(0, 13)", x.frame(0, 13), 31);
        check.notEnough("contig(0) with pages and no frame", () -> x.contig(0));
        check.changesNothing("contig(0) with pages and no frame", x, () -> x.contig(0));
    }

    /** Blocks of pages need free frames outside; free frames inside do not count. */
    private static void oneFreeFrameTooFew() {
        MovedFrames x = withPages(14);
        x.contig(5);
        x.vmalloc(8);
        x.vmalloc(4);
        int single = x.vmalloc(1);
        check.same("free()", x.free(), 3);
        check.notEnough("contig(3): eight pages, three free frames", () -> x.contig(3));
        x.munmap(0, 6, 4);
        check.same("free() then", x.free(), 7);
        check.notEnough("contig(3): four pages, three free frames outside", () -> x.contig(3));
        check.changesNothing("contig(3)", x, () -> x.contig(3));
        x.vfree(single);
        check.same("contig(3): four pages, four free frames outside", x.contig(3), 8);
        check.same("moved()", x.moved(), 4);
        check.same("frame(0, 10)", x.frame(0, 10), 28);
        check.same("free() at the end", x.free(), 0);
    }

    private static void runOfOnePage() {
        MovedFrames x = withPages(1);
        check.same("contig(0)", x.contig(0), 2);
        check.same("frame(0, 0)", x.frame(0, 0), 3);
        check.same("contig(0) again", x.contig(0), 3);
        check.same("frame(0, 0) again", x.frame(0, 0), 4);
        check.same("moved()", x.moved(), 2);
        x.release(2);
        check.same("contig(0) in the free frame", x.contig(0), 2);
        check.same("contig(0) moves up again", x.contig(0), 4);
        x.release(2);
        check.same("contig(1) moves it nowhere", x.contig(1), 6);
        check.same("moved() at the end", x.moved(), 3);
        check.same("load(0, 0)", x.load(0, 0), 100);
    }

    private static void movedPageIsUsedOn() {
        MovedFrames x = withPages(3);
        x.contig(1);
        x.store(0, 3, 77);
        check.same("word of the new frame", x.word(x.frame(0, 0), 3), 77);
        check.same("word of the old frame", x.word(2, 3), 0);
        check.same("munmap of two moved pages", x.munmap(0, 0, 2), 2);
        check.same("owner(2)", x.owner(2), 5);
        check.same("the table is still there", x.owner(1), 1);
        check.same("munmap of the last", x.munmap(0, 2, 1), 1);
        check.same("the table is free", x.owner(1), 0);
        check.same("free()", x.free(), 61);
        check.same("destroy", x.destroy(0), 1);
        check.same("release", x.release(2), 2);
        check.same("moved() after all", x.moved(), 2);
    }

    private static void wordsOfARun() {
        MovedFrames x = withPages(2);
        x.vmalloc(4);
        for (int address = 0; address < 64; address++) {
            x.store(-2, address, 1 + address);
        }
        x.vfree(0);
        check.same("word(6, 0) of a free frame", x.word(6, 0), 33);
        check.same("contig(1)", x.contig(1), 2);
        check.same("word(2, 0)", x.word(2, 0), 0);
        check.same("word(3, 15)", x.word(3, 15), 0);
        check.same("word(4, 0) is the page's", x.word(4, 0), 100);
        check.same("word(4, 1) is the page's", x.word(4, 1), 0);
        check.same("contig(1) in 6 and 7", x.contig(1), 4);
        check.same("word(6, 0) is the page's", x.word(6, 0), 100);
        check.same("word(7, 15) is the page's", x.word(7, 15), 201);
        check.same("word(5, 1)", x.word(5, 1), 0);
    }

    /** A space with its root in frame 0, its table in 1 and pages in 2, 3 and so on. */
    private static MovedFrames withPages(int n) {
        MovedFrames x = new MovedFrames();
        x.create();
        x.mmap(0, 0, 16);
        for (int page = 0; page < n; page++) {
            x.store(0, 16 * page, 100 + page);
            x.store(0, 16 * page + 15, 200 + page);
        }
        return x;
    }
}
