/** Promises 1 and 14 to 18: a new object, and what can be asked of frames, pages and free blocks. */
public final class FramesTest {
    private static final Check check = new Check();

    public static void main(String[] args) {
        newObject();
        newObjectHasNothing();
        owners();
        ownersOfNoFrame();
        framesOfPages();
        framesOfRangePages();
        framesOfNoPage();
        framesOfNoSpace();
        wordsAsTheyLie();
        wordsOfNoFrame();
        noSuchWords();
        blocksOfAllOrders();
        blocksOfNoOrder();
        freeFrames();
        askingChangesNothing();
        check.end();
    }

    private static void newObject() {
        check.sentence("All frames are free");
        MovedFrames x = new MovedFrames();
        check.same("free()", x.free(), 64);
        check.same("moved()", x.moved(), 0);
        check.freeBlocks("a new object", x, 0, 0, 0, 0, 0, 0, 1);
        for (int frame = 0; frame < 64; frame++) {
            check.same("owner(" + frame + ")", x.owner(frame), 0);
            check.same("word(" + frame + ", 0)", x.word(frame, 0), 0);
            check.same("word(" + frame + ", 15)", x.word(frame, 15), 0);
        }
        MovedFrames other = new MovedFrames();
        other.vmalloc(8);
        check.same("free() beside another object", x.free(), 64);
    }

    private static void newObjectHasNothing() {
        check.sentence("no spaces");
        MovedFrames x = new MovedFrames();
        for (int i = 0; i < 4; i++) {
            int space = i;
            check.badArgument("destroy(" + i + ")", () -> x.destroy(space));
            check.badArgument("mmap(" + i + ", 0, 1)", () -> x.mmap(space, 0, 1));
            check.badArgument("munmap(" + i + ", 0, 1)", () -> x.munmap(space, 0, 1));
            check.badArgument("load(" + i + ", 0)", () -> x.load(space, 0));
            check.badArgument("store(" + i + ", 0, 1)", () -> x.store(space, 0, 1));
            check.same("frame(" + i + ", 0)", x.frame(i, 0), -1);
        }
        check.badArgument("kfree(0)", () -> x.kfree(0));
        check.badArgument("vfree(0)", () -> x.vfree(0));
        check.badArgument("release(0)", () -> x.release(0));
        check.fault("load(-1, 0)", () -> x.load(-1, 0));
        check.fault("load(-2, 0)", () -> x.load(-2, 0));
        check.same("frame(-2, 0)", x.frame(-2, 0), -1);
    }

    private static void owners() {
        check.sentence("The owner of a frame, 0 if it is free");
        MovedFrames x = new MovedFrames();
        x.create();
        x.mmap(0, 0, 1);
        x.load(0, 0);
        x.kmalloc(2);
        x.vmalloc(1);
        x.contig(0);
        check.same("owners", Arrange.owners(x), Arrange.ownersOf("RTXSrp" + ".".repeat(58)));
        x.kfree(48);
        x.vfree(0);
        check.same("owners then", Arrange.owners(x), Arrange.ownersOf("RTX..p" + ".".repeat(58)));
        x.release(2);
        x.destroy(0);
        check.same("owners at the end", Arrange.owners(x), Arrange.ownersOf(".".repeat(64)));
        String last = "r".repeat(58) + "RTprSX";
        check.same("owners up to the last", Arrange.owners(Arrange.layout(last)), Arrange.ownersOf(last));
    }

    private static void ownersOfNoFrame() {
        check.sentence("owner: -1 if there is none");
        MovedFrames x = Arrange.allTaken();
        int[] none = {-1, -2, -63, -64, 64, 65, 127, 128, 1 << 26, 1 << 28, 1 << 30, Integer.MIN_VALUE,
            Integer.MIN_VALUE + 1, Integer.MAX_VALUE};
        for (int frame : none) {
            check.same("owner(" + frame + ")", x.owner(frame), -1);
        }
        check.same("owner(0)", x.owner(0), 3);
        check.same("owner(63)", x.owner(63), 3);
        check.same("owner(63) of a new object", new MovedFrames().owner(63), 0);
        check.same("owner(64) of a new object", new MovedFrames().owner(64), -1);
    }

    private static void framesOfPages() {
        check.sentence("The frame of a page of a space");
        MovedFrames x = new MovedFrames();
        x.create();
        x.create();
        x.mmap(0, 240, 16);
        x.mmap(1, 0, 16);
        x.load(0, 4080);
        x.load(0, 3840);
        x.load(1, 0);
        check.same("frame(0, 255)", x.frame(0, 255), 3);
        check.same("frame(0, 240)", x.frame(0, 240), 4);
        check.same("frame(1, 0)", x.frame(1, 0), 6);
        check.same("frame(0, 241), which is not touched", x.frame(0, 241), -1);
        check.same("frame(1, 1), which is not touched", x.frame(1, 1), -1);
        check.same("frame(0, 0), which is in no region", x.frame(0, 0), -1);
        check.same("frame(1, 255), which is in no region", x.frame(1, 255), -1);
        x.munmap(0, 255, 1);
        check.same("frame(0, 255) after munmap", x.frame(0, 255), -1);
        x.destroy(0);
        check.same("frame(0, 240) after destroy", x.frame(0, 240), -1);
        check.same("frame(1, 0) after that", x.frame(1, 0), 6);
    }

    private static void framesOfRangePages() {
        check.sentence("The frame of .. (-2: of a range page)");
        MovedFrames x = Arrange.free(1L << 5 | 1L << 63);
        check.same("frame(-2, 0)", x.frame(-2, 0), 0);
        check.same("frame(-2, 62)", x.frame(-2, 62), 62);
        check.same("frame(-2, 5), which is not taken", x.frame(-2, 5), -1);
        check.same("frame(-2, 63), which is not taken", x.frame(-2, 63), -1);
        x.vfree(16 * 9);
        check.same("vmalloc(1)", x.vmalloc(1), 16 * 5);
        check.same("frame(-2, 5) then", x.frame(-2, 5), 5);
        x.vmalloc(1);
        check.same("frame(-2, 9) then", x.frame(-2, 9), 9);
    }

    private static void framesOfNoPage() {
        check.sentence("frame: -1 if there is none");
        MovedFrames x = new MovedFrames();
        for (int space = 0; space < 4; space++) {
            x.create();
            for (int first = 0; first < 256; first += 64) {
                x.mmap(space, first, 64);
            }
            // Words that look like entries: a page behind the last one must not be found in them.
            for (int w = 0; w < 16; w++) {
                x.store(space, w, 1 + w);
                x.store(space, 4080 + w, 1 + w);
            }
        }
        x.vmalloc(8);
        int[] none = {-1, -2, -16, -255, -256, -257, 256, 257, 511, 512, 1 << 24, 1 << 28, Integer.MIN_VALUE,
            Integer.MIN_VALUE + 255, Integer.MAX_VALUE};
        for (int page : none) {
            for (int space = 0; space < 4; space++) {
                check.same("frame(" + space + ", " + page + ")", x.frame(space, page), -1);
            }
            check.same("frame(-2, " + page + ")", x.frame(-2, page), -1);
        }
        check.same("frame(-2, 8)", x.frame(-2, 8), -1);
        check.same("frame(-2, 64)", x.frame(-2, 64), -1);
    }

    private static void framesOfNoSpace() {
        check.sentence("frame: -1 if there is none");
        MovedFrames x = new MovedFrames();
        x.create();
        x.mmap(0, 0, 1);
        x.mmap(0, 255, 1);
        x.load(0, 0);
        x.load(0, 4095);
        x.kmalloc(8);
        x.vmalloc(8);
        int[] none = {-1, -3, -4, 1, 2, 3, 4, 5, 1 << 24, 1 << 30, Integer.MIN_VALUE, Integer.MAX_VALUE};
        for (int space : none) {
            check.same("frame(" + space + ", 0)", x.frame(space, 0), -1);
            check.same("frame(" + space + ", 255)", x.frame(space, 255), -1);
            check.same("frame(" + space + ", -256)", x.frame(space, -256), -1);
            check.same("frame(" + space + ", 256)", x.frame(space, 256), -1);
        }
    }

    private static void wordsAsTheyLie() {
        check.sentence("Word w of a frame as it lies there");
        MovedFrames x = Arrange.layout("RTpS");
        x.store(-1, 48, 11);
        x.store(-1, 63, 12);
        x.store(-2, 1023, Integer.MIN_VALUE);
        check.same("the root's entry", x.word(0, 0), 2);
        check.same("the table's entry", x.word(1, 0), 3);
        check.same("the page's first word", x.word(2, 0), 1002);
        check.same("the page's last word", x.word(2, 15), 2002);
        check.same("the first object's first word", x.word(3, 0), 11);
        check.same("the last object's last word", x.word(3, 15), 12);
        check.same("the last word of all", x.word(63, 15), Integer.MIN_VALUE);
        x.vfree(16 * 63);
        check.same("the last word of all, free", x.word(63, 15), Integer.MIN_VALUE);
    }

    private static void wordsOfNoFrame() {
        check.sentence("word: 0 if there is none");
        MovedFrames x = withWords();
        int[] none = {-1, -2, -64, 64, 65, 128, 1 << 26, 1 << 28, (1 << 28) + 3, 1 << 30, Integer.MIN_VALUE,
            Integer.MIN_VALUE + 3, Integer.MAX_VALUE};
        int[] words = {0, 3, 15, 16, -1, 32, -16 * 61};
        for (int frame : none) {
            for (int w : words) {
                check.same("word(" + frame + ", " + w + ")", x.word(frame, w), 0);
            }
        }
    }

    private static void noSuchWords() {
        check.sentence("word: 0 if there is none");
        int[] none = {-1, -2, -15, -16, -17, 16, 17, 31, 32, 1 << 28, Integer.MIN_VALUE, Integer.MIN_VALUE + 1,
            Integer.MAX_VALUE, Integer.MAX_VALUE - 15};
        int[] frames = {0, 1, 2, 3, 4, 62, 63};
        for (int frame : frames) {
            MovedFrames x = withWords();
            for (int w : none) {
                check.same("word(" + frame + ", " + w + ")", x.word(frame, w), 0);
            }
        }
    }

    private static void blocksOfAllOrders() {
        check.sentence("How many free blocks of an order there are");
        MovedFrames x = new MovedFrames();
        x.kmalloc(1);
        check.freeBlocks("one frame taken", x, 1, 1, 1, 1, 1, 1, 0);
        x.contig(5);
        check.freeBlocks("the upper half taken", x, 1, 1, 1, 1, 1, 0, 0);
        x.kfree(0);
        check.freeBlocks("the lower half free", x, 0, 0, 0, 0, 0, 1, 0);
        x.release(32);
        check.freeBlocks("all free again", x, 0, 0, 0, 0, 0, 0, 1);
    }

    private static void blocksOfNoOrder() {
        check.sentence("blocks: 0 for an order that is not 0 .. 6");
        int[] none = {-1, -2, -6, -26, -32, -58, -64, 7, 8, 31, 32, 37, 38, 63, 64, 70, Integer.MIN_VALUE,
            Integer.MIN_VALUE + 6, Integer.MAX_VALUE};
        long[] sets = {-1L, 0x5555555555555555L, -2L, 0L, 1L << 63};
        for (long bits : sets) {
            MovedFrames x = Arrange.free(bits);
            for (int order : none) {
                check.same("blocks(" + order + ")", x.blocks(order), 0);
            }
        }
    }

    private static void freeFrames() {
        check.sentence("How many frames are free");
        MovedFrames x = new MovedFrames();
        check.same("free() of a new object", x.free(), 64);
        x.vmalloc(8);
        check.same("free() after vmalloc(8)", x.free(), 56);
        x.contig(5);
        check.same("free() after contig(5)", x.free(), 24);
        x.contig(4);
        x.contig(2);
        check.same("free() with four left", x.free(), 4);
        x.create();
        x.mmap(0, 0, 1);
        check.same("free() with three left", x.free(), 3);
        x.load(0, 0);
        check.same("free() with one left", x.free(), 1);
        x.kmalloc(8);
        check.same("free() with none left", x.free(), 0);
        x.kmalloc(8);
        check.same("free() with none left, and a second object", x.free(), 0);
        check.same("destroy", x.destroy(0), 3);
        check.same("free() with three again", x.free(), 3);
        x.vfree(0);
        check.same("free() with eleven", x.free(), 11);
    }

    private static void askingChangesNothing() {
        check.sentence("Promises 14 to 19 tell of no change");
        MovedFrames x = Arrange.layout("RTp.S.X.r.");
        for (int i = -1; i <= 64; i += 5) {
            x.owner(i);
            x.frame(0, i);
            x.frame(-2, i);
            x.word(i, 0);
            x.blocks(i);
            x.free();
            x.moved();
        }
        check.same("owners", Arrange.owners(x), Arrange.ownersOf("RTp.S.X.r."));
        check.same("the next frame given", x.kmalloc(1), 48);
    }

    /** Every word of frames 0 .. 4 and 60 .. 63 is not 0. */
    private static MovedFrames withWords() {
        MovedFrames x = new MovedFrames();
        for (int i = 0; i < 8; i++) {
            x.vmalloc(8);
        }
        for (int address = 0; address < 1024; address += address == 79 ? 16 * 55 + 1 : 1) {
            x.store(-2, address, 1 + address);
        }
        return x;
    }
}
