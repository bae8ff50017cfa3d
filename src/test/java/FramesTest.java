/** Promises 1 and 14 to 18: a new object, and what can be asked of frames and free blocks. */
public final class FramesTest {
    private static final Check check = new Check();

    public static void main(String[] args) {
        newObject();
        owners();
        noSuchFrame();
        words();
        frameOfPages();
        blocksSplitAndJoin();
        lowestOrderIsGivenFirst();
        lowestOfOneOrderIsGivenFirst();
        wordsStayUntilGivenAgain();
        allFramesTaken();
        check.end();
    }

    private static void newObject() {
        MovedFrames x = new MovedFrames();
        check.same("free() of a new object", x.free(), 64);
        check.same("moved() of a new object", x.moved(), 0);
        check.freeBlocks("a new object", x, 0, 0, 0, 0, 0, 0, 1);
        for (int frame = 0; frame < 64; frame++) {
            check.same("owner(" + frame + ") of a new object", x.owner(frame), 0);
            for (int w = 0; w < 16; w++) {
                check.same("word(" + frame + ", " + w + ") of a new object", x.word(frame, w), 0);
            }
        }
        for (int space = -2; space < 4; space++) {
            check.same("frame(" + space + ", 0) of a new object", x.frame(space, 0), -1);
        }
        for (int space = 0; space < 4; space++) {
            int there = space;
            check.badArgument("destroy(" + space + ") of a new object", () -> x.destroy(there));
            check.badArgument("load(" + space + ", 0) of a new object", () -> x.load(there, 0));
        }
        check.badArgument("kfree(0) of a new object", () -> x.kfree(0));
        check.badArgument("vfree(0) of a new object", () -> x.vfree(0));
        check.badArgument("release(0) of a new object", () -> x.release(0));
    }

    private static void owners() {
        MovedFrames x = new MovedFrames();
        x.create();
        x.mmap(0, 0, 1);
        x.load(0, 0);
        x.kmalloc(2);
        x.vmalloc(1);
        x.contig(0);
        int[] due = {1, 1, 5, 2, 3, 4, 0};
        for (int frame = 0; frame < due.length; frame++) {
            check.same("owner(" + frame + ")", x.owner(frame), due[frame]);
        }
        check.same("frame(0, 0) after the move", x.frame(0, 0), 5);
    }

    private static void noSuchFrame() {
        MovedFrames x = new MovedFrames();
        int[] none = {-1, 64, Integer.MIN_VALUE, Integer.MAX_VALUE, 1 << 28};
        for (int frame : none) {
            check.same("owner(" + frame + ")", x.owner(frame), -1);
            check.same("word(" + frame + ", 0)", x.word(frame, 0), 0);
        }
        check.same("owner(63)", x.owner(63), 0);
    }

    private static void words() {
        MovedFrames x = new MovedFrames();
        x.kmalloc(8);
        x.kmalloc(8);
        x.vmalloc(1);
        x.store(-1, 0, 11);
        x.store(-1, 15, 12);
        x.store(-2, 0, 13);
        check.same("word(0, 0)", x.word(0, 0), 11);
        check.same("word(0, 15)", x.word(0, 15), 12);
        check.same("word(1, 0)", x.word(1, 0), 13);
        int[] none = {-1, 16, Integer.MIN_VALUE, Integer.MAX_VALUE};
        for (int w : none) {
            check.same("word(0, " + w + ")", x.word(0, w), 0);
            check.same("word(1, " + w + ")", x.word(1, w), 0);
        }
    }

    private static void frameOfPages() {
        MovedFrames x = new MovedFrames();
        x.create();
        x.mmap(0, 240, 16);
        x.load(0, 4080);
        x.load(0, 3840);
        x.vmalloc(2);
        check.same("frame(0, 255)", x.frame(0, 255), 2);
        check.same("frame(0, 240)", x.frame(0, 240), 3);
        check.same("frame(0, 241)", x.frame(0, 241), -1);
        check.same("frame(-2, 0)", x.frame(-2, 0), 4);
        check.same("frame(-2, 1)", x.frame(-2, 1), 5);
        check.same("frame(-2, 2)", x.frame(-2, 2), -1);
        int[] none = {-1, 256, Integer.MIN_VALUE, Integer.MAX_VALUE};
        for (int page : none) {
            check.same("frame(0, " + page + ")", x.frame(0, page), -1);
            check.same("frame(-2, " + page + ")", x.frame(-2, page), -1);
        }
        int[] noSpaces = {-1, -3, 1, 3, 4, Integer.MIN_VALUE, Integer.MAX_VALUE};
        for (int space : noSpaces) {
            check.same("frame(" + space + ", 255)", x.frame(space, 255), -1);
            check.same("frame(" + space + ", 0)", x.frame(space, 0), -1);
        }
        check.same("free() after frame()", x.free(), 58);
    }

    private static void blocksSplitAndJoin() {
        MovedFrames x = new MovedFrames();
        x.kmalloc(1);
        check.freeBlocks("one frame taken", x, 1, 1, 1, 1, 1, 1, 0);
        check.same("free() with one frame taken", x.free(), 63);
        int[] none = {-1, 7, 32, 64, Integer.MIN_VALUE, Integer.MAX_VALUE};
        for (int order : none) {
            check.same("blocks(" + order + ")", x.blocks(order), 0);
        }
        x.contig(5);
        check.freeBlocks("the upper half taken", x, 1, 1, 1, 1, 1, 0, 0);
        x.kfree(0);
        check.freeBlocks("the lower half free", x, 0, 0, 0, 0, 0, 1, 0);
        x.release(32);
        check.freeBlocks("all free again", x, 0, 0, 0, 0, 0, 0, 1);
    }

    /** All but frame 6 are free: 7 alone is the block of order 0, so it goes before 0 .. 5. */
    private static void lowestOrderIsGivenFirst() {
        MovedFrames x = new MovedFrames();
        x.vmalloc(6);
        int high = x.vmalloc(1);
        check.same("the address behind six pages", high, 96);
        x.vfree(0);
        check.freeBlocks("0 .. 5 and 7 free", x, 1, 1, 1, 1, 1, 1, 0);
        check.same("kmalloc in the block of order 0", x.kmalloc(2), 7 * 16);
        check.same("kmalloc in the block of order 1", x.kmalloc(4), 4 * 16);
        check.same("kmalloc in the rest of it", x.kmalloc(8), 5 * 16);
        check.same("create in the block of order 2", x.create(), 0);
        check.same("owner(0)", x.owner(0), 1);
    }

    /** Blocks are cut where their number says: 1 and 2 free are two blocks of order 0. */
    private static void lowestOfOneOrderIsGivenFirst() {
        MovedFrames x = new MovedFrames();
        for (int i = 0; i < 4; i++) {
            x.vmalloc(1);
        }
        x.vfree(16);
        x.vfree(32);
        check.freeBlocks("1 and 2 free", x, 2, 0, 1, 1, 1, 1, 0);
        check.same("kmalloc in the lower one", x.kmalloc(2), 16);
        check.same("kmalloc in the upper one", x.kmalloc(4), 32);
        check.same("kmalloc behind them", x.kmalloc(8), 64);
    }

    private static void wordsStayUntilGivenAgain() {
        MovedFrames x = new MovedFrames();
        x.vmalloc(1);
        x.store(-2, 3, 99);
        x.vfree(0);
        check.same("word of a free frame", x.word(0, 3), 99);
        x.kmalloc(8);
        check.same("word of a frame that was given", x.word(0, 3), 0);
        x.store(-1, 3, 98);
        x.kfree(0);
        check.same("word of a free slab", x.word(0, 3), 98);
        x.contig(1);
        check.same("word of a frame in a run", x.word(0, 3), 0);
        x.release(0);
        x.create();
        x.mmap(0, 0, 1);
        x.store(0, 5, 97);
        check.same("word of a page", x.word(2, 5), 97);
        x.munmap(0, 0, 1);
        check.same("word of a page's frame that is free", x.word(2, 5), 97);
    }

    private static void allFramesTaken() {
        MovedFrames x = new MovedFrames();
        x.contig(5);
        x.contig(5);
        check.same("free() with all taken", x.free(), 0);
        check.freeBlocks("all taken", x, 0, 0, 0, 0, 0, 0, 0);
        check.changesNothing("kmalloc", x, () -> x.kmalloc(1));
        check.changesNothing("vmalloc", x, () -> x.vmalloc(1));
        check.changesNothing("create", x, x::create);
        check.changesNothing("contig", x, () -> x.contig(0));
        x.release(32);
        check.same("create in the upper half", x.create(), 0);
        check.same("owner(32)", x.owner(32), 1);
    }
}
