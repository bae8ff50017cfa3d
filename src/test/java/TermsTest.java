import java.util.ArrayList;
import java.util.List;

/** What the document says under "Terms" of frames, words, free blocks and giving. */
public final class TermsTest {
    private static final Check check = new Check();

    public static void main(String[] args) {
        sixtyFourFrames();
        sixteenWords();
        freeBlocksThatAreKnown();
        freeBlocksOfManyKinds();
        freeBlocksJoin();
        givenIsTheLowestOrder();
        givenAreTheLowestFrames();
        givenOneAfterTheOther();
        givenToAnyOwner();
        givenIfThereIsOne();
        zeroWhenGiven();
        zeroInARun();
        zeroInARunThatMovesPages();
        wordsStayWhenFree();
        wordsOfTablesStayWhenFree();
        check.end();
    }

    private static void sixtyFourFrames() {
        check.sentence("There are 64 FRAMES");
        MovedFrames x = new MovedFrames();
        for (int i = 0; i < 64; i++) {
            check.same("free() before frame " + i, x.free(), 64 - i);
            check.same("vmalloc(1)", x.vmalloc(1), 16 * i);
            check.same("frame(-2, " + i + ")", x.frame(-2, i), i);
        }
        check.same("free() with all taken", x.free(), 0);
        check.notEnough("kmalloc(1) for frame 64", () -> x.kmalloc(1));
        check.notEnough("create() for frame 64", x::create);
        check.same("owner(-1)", x.owner(-1), -1);
        check.same("owner(0)", x.owner(0), 3);
        check.same("owner(63)", x.owner(63), 3);
        check.same("owner(64)", x.owner(64), -1);
    }

    /** All words of twelve frames at a time, which is what 512 calls suffice for. */
    private static void sixteenWords() {
        check.sentence("64 FRAMES of 16 WORDS");
        for (int low = 0; low < 64; low += 12) {
            MovedFrames x = new MovedFrames();
            for (int i = 0; i < 8; i++) {
                x.vmalloc(8);
            }
            int high = Math.min(64, low + 12);
            for (int address = 16 * low; address < 16 * high; address++) {
                x.store(-2, address, 5000 + address);
            }
            for (int frame = low; frame < high; frame++) {
                for (int w = 0; w < 16; w++) {
                    check.same("word(" + frame + ", " + w + ")", x.word(frame, w), 5000 + 16 * frame + w);
                }
                check.same("word(" + frame + ", -1)", x.word(frame, -1), 0);
                check.same("word(" + frame + ", 16)", x.word(frame, 16), 0);
            }
            check.same("word(-1, 15)", x.word(-1, 15), 0);
            check.same("word(64, 0)", x.word(64, 0), 0);
        }
    }

    private static void freeBlocksThatAreKnown() {
        check.sentence("the free BLOCKS are those blocks of free frames that are in no greater block of free frames");
        check.freeBlocks("all frames", Arrange.free(-1L), 0, 0, 0, 0, 0, 0, 1);
        check.freeBlocks("no frame", Arrange.free(0), 0, 0, 0, 0, 0, 0, 0);
        check.freeBlocks("frame 0", Arrange.free(1), 1, 0, 0, 0, 0, 0, 0);
        check.freeBlocks("frame 63", Arrange.free(1L << 63), 1, 0, 0, 0, 0, 0, 0);
        check.freeBlocks("0 and 1", Arrange.free(3), 0, 1, 0, 0, 0, 0, 0);
        check.freeBlocks("1 and 2, cut by the numbers", Arrange.free(6), 2, 0, 0, 0, 0, 0, 0);
        check.freeBlocks("31 and 32", Arrange.free(3L << 31), 2, 0, 0, 0, 0, 0, 0);
        check.freeBlocks("2 .. 5", Arrange.free(0x3c), 0, 2, 0, 0, 0, 0, 0);
        check.freeBlocks("16 .. 47", Arrange.free(0xffffffffL << 16), 0, 0, 0, 0, 2, 0, 0);
        check.freeBlocks("the lower half", Arrange.free(0xffffffffL), 0, 0, 0, 0, 0, 1, 0);
        check.freeBlocks("the upper half", Arrange.free(-1L << 32), 0, 0, 0, 0, 0, 1, 0);
        check.freeBlocks("all but 0", Arrange.free(-2L), 1, 1, 1, 1, 1, 1, 0);
        check.freeBlocks("all but 63", Arrange.free(-1L >>> 1), 1, 1, 1, 1, 1, 1, 0);
        check.freeBlocks("all but 0 and 63", Arrange.free(-2L & -1L >>> 1), 2, 2, 2, 2, 2, 0, 0);
        check.freeBlocks("every second", Arrange.free(0x5555555555555555L), 32, 0, 0, 0, 0, 0, 0);
        check.freeBlocks("every second pair", Arrange.free(0xccccccccccccccccL), 0, 16, 0, 0, 0, 0, 0);
        check.freeBlocks("every second four", Arrange.free(0x0f0f0f0f0f0f0f0fL), 0, 0, 8, 0, 0, 0, 0);
        check.freeBlocks("every second eight", Arrange.free(0xff00ff00ff00ff00L), 0, 0, 0, 4, 0, 0, 0);
        check.freeBlocks("every second sixteen", Arrange.free(0x0000ffff0000ffffL), 0, 0, 0, 0, 2, 0, 0);
    }

    private static void freeBlocksOfManyKinds() {
        check.sentence("the free BLOCKS are those blocks of free frames that are in no greater block of free frames");
        for (long bits : patterns()) {
            MovedFrames x = Arrange.free(bits);
            for (int order = 0; order <= 6; order++) {
                check.same("blocks(" + order + ") of " + told(bits), x.blocks(order), Buddies.count(bits, order));
            }
            check.same("free() of " + told(bits), x.free(), Long.bitCount(bits));
        }
    }

    /** The frames become free in an order that lets blocks of all orders join late. */
    private static void freeBlocksJoin() {
        check.sentence("the free BLOCKS are those blocks of free frames that are in no greater block of free frames");
        MovedFrames x = Arrange.allTaken();
        long bits = 0;
        for (int i = 0; i < 64; i++) {
            int frame = Integer.reverse(i) >>> 26;
            x.vfree(16 * frame);
            bits |= 1L << frame;
            for (int order = i % 2; order <= 6; order += 2) {
                check.same("blocks(" + order + ") of " + told(bits), x.blocks(order), Buddies.count(bits, order));
            }
        }
        check.same("blocks(6) of all", x.blocks(6), 1);
    }

    private static void givenIsTheLowestOrder() {
        check.sentence("of the free blocks of the lowest order that is at least k");
        for (int order = 0; order < 6; order++) {
            // A greater block lies below, the one of the lowest order is the highest of all.
            int first = 64 - (1 << order);
            long bits = -1L << first | (order < 5 ? 0xffffffffL : 0);
            check.same("a block of order " + order + " at " + first, given(Arrange.free(bits)), first);
        }
        check.same("7 before 0 .. 3 and 4, 5", given(Arrange.free(0xbf)), 7);
        check.same("4 before 0 .. 3", given(Arrange.free(0x3f)), 4);
        check.same("0 of all", given(Arrange.free(-1L)), 0);
    }

    private static void givenAreTheLowestFrames() {
        check.sentence("the one with the lowest frames; its first 2^k frames are given");
        for (int order = 0; order < 6; order++) {
            int high = 64 - (1 << order);
            int low = order == 5 ? 0 : 1 << order;
            long block = (1L << (1 << order)) - 1;
            check.same("two blocks of order " + order, given(Arrange.free(block << high | block << low)), low);
            check.same("one of order " + order, given(Arrange.free(block << high)), high);
        }
        check.same("1 of 1 and 2", given(Arrange.free(6)), 1);
        check.same("2 of 2 .. 5", given(Arrange.free(0x3c)), 2);
        check.same("16 of 16 .. 47", given(Arrange.free(0xffffffffL << 16)), 16);
    }

    private static void givenOneAfterTheOther() {
        check.sentence("TO GIVE 2^k frames");
        for (long bits : patterns()) {
            MovedFrames x = Arrange.free(bits);
            long left = bits;
            while (left != 0) {
                int due = Buddies.next(left);
                check.same("the frame given of " + told(left), x.frame(-2, x.vmalloc(1) / 16), due);
                left &= ~(1L << due);
            }
            check.notEnough("vmalloc(1) at the end", () -> x.vmalloc(1));
        }
    }

    private static void givenToAnyOwner() {
        check.sentence("TO GIVE 2^k frames");
        for (long bits : patterns()) {
            if (Long.bitCount(bits) >= 5) {
                MovedFrames x = Arrange.free(bits);
                long left = bits;
                int slab = Buddies.next(left);
                check.same("the slab of " + told(left), x.kmalloc(1), 16 * slab);
                left &= ~(1L << slab);
                int root = Buddies.next(left);
                x.create();
                check.same("the root of " + told(left), x.owner(root), 1);
                left &= ~(1L << root);
                x.mmap(0, 77, 1);
                x.load(0, 16 * 77);
                int table = Buddies.next(left);
                check.same("the table of " + told(left), x.word(root, 4), 1 + table);
                left &= ~(1L << table);
                check.same("the page of " + told(left), x.frame(0, 77), Buddies.next(left));
            }
        }
    }

    private static void givenIfThereIsOne() {
        check.sentence("its first 2^k frames are given, if there is such a block");
        MovedFrames x = Arrange.layout("RTp" + "r".repeat(61));
        check.same("free()", x.free(), 0);
        check.notEnough("kmalloc(1)", () -> x.kmalloc(1));
        check.notEnough("vmalloc(1)", () -> x.vmalloc(1));
        check.notEnough("create()", x::create);
        check.notEnough("load of a new page", () -> x.load(0, 16));
        x.vfree(16 * 63);
        check.same("kmalloc(1) in the last frame", x.kmalloc(1), 16 * 63);
        check.same("free() then", x.free(), 0);
    }

    private static void zeroWhenGiven() {
        check.sentence("All words of a frame become 0 when it is given");
        MovedFrames slab = withOldWords();
        check.same("kmalloc(2)", slab.kmalloc(2), 0);
        zero("a slab", slab, 0, -1);
        old("beside a slab", slab, 1);

        MovedFrames range = withOldWords();
        range.vmalloc(3);
        zero("the first page", range, 0, -1);
        zero("the last page", range, 2, -1);
        old("behind a range", range, 3);

        MovedFrames space = withOldWords();
        space.create();
        zero("a root", space, 0, -1);
        space.mmap(0, 0, 1);
        space.load(0, 0);
        zero("a root with an entry", space, 0, 0);
        zero("a table", space, 1, 0);
        check.same("the table's entry", space.word(1, 0), 3);
        zero("a page", space, 2, -1);
        old("behind the page", space, 3);
    }

    private static void zeroInARun() {
        check.sentence("All words of a frame become 0 when it is given (also as a part of a run)");
        for (int order = 0; order <= 2; order++) {
            MovedFrames x = withOldWords();
            check.same("contig(" + order + ")", x.contig(order), 0);
            for (int frame = 0; frame < 1 << order; frame++) {
                zero("a run", x, frame, -1);
            }
            old("behind the run", x, 1 << order);
        }
        MovedFrames great = withOldWords();
        great.contig(5);
        for (int frame = 0; frame < 8; frame++) {
            zero("a great run", great, frame, -1);
        }
    }

    private static void zeroInARunThatMovesPages() {
        check.sentence("All words of a frame become 0 when it is given (also as a part of a run)");
        MovedFrames x = withOldWords();
        x.create();
        x.mmap(0, 0, 1);
        for (int w = 0; w < 16; w++) {
            x.store(0, w, 700 + w);
        }
        check.same("contig(1)", x.contig(1), 2);
        zero("where the page was", x, 2, -1);
        zero("where free words were", x, 3, -1);
        for (int w = 0; w < 16; w++) {
            check.same("word " + w + " of the page", x.word(4, w), 700 + w);
        }
        old("behind the page", x, 5);
    }

    private static void wordsStayWhenFree() {
        check.sentence("All words of a frame .. stay when it becomes free");
        MovedFrames range = withOldWords();
        for (int frame = 0; frame < 8; frame++) {
            check.same("owner(" + frame + ")", range.owner(frame), 0);
            old("a range that is gone", range, frame);
        }
        MovedFrames slab = new MovedFrames();
        slab.kmalloc(8);
        slab.kmalloc(8);
        for (int w = 0; w < 16; w++) {
            slab.store(-1, w, 500 + w);
        }
        slab.kfree(8);
        slab.kfree(0);
        old("a slab that is gone", slab, 0);
        MovedFrames space = new MovedFrames();
        space.create();
        space.mmap(0, 0, 1);
        for (int w = 0; w < 16; w++) {
            space.store(0, w, 500 + 32 + w);
        }
        space.munmap(0, 0, 1);
        old("a page that is gone", space, 2);
        space.mmap(0, 0, 1);
        old("a page that is not touched yet", space, 2);
        space.destroy(0);
        old("a page of a space that is gone", space, 2);
    }

    private static void wordsOfTablesStayWhenFree() {
        check.sentence("All words of a frame .. stay when it becomes free");
        MovedFrames x = new MovedFrames();
        x.create();
        x.mmap(0, 240, 16);
        x.store(0, 4095, -5);
        x.store(0, 3840, -6);
        x.destroy(0);
        check.same("free()", x.free(), 64);
        check.same("the root's entry", x.word(0, 15), 2);
        check.same("the table's last entry", x.word(1, 15), 3);
        check.same("the table's first entry", x.word(1, 0), 4);
        check.same("the last page's word", x.word(2, 15), -5);
        check.same("the first page's word", x.word(3, 0), -6);
    }

    /** Free sets: every block of every order, all but one, and some of mixed kinds. */
    private static List<Long> patterns() {
        List<Long> found = new ArrayList<>(List.of(0L, -1L, 6L, 0x3cL, 0x7ffffffffffffffeL, 0x5555555555555555L,
            0x9249249249249249L, 0x0123456789abcdefL, 0xfedcba9876543210L, 0x8000000000000001L));
        for (int order = 0; order < 6; order++) {
            long block = (1L << (1 << order)) - 1;
            for (int first = 0; first < 64; first += 1 << order) {
                found.add(block << first);
                found.add(~(block << first));
            }
        }
        long mixed = 0x9e3779b97f4a7c15L;
        for (int i = 1; i <= 60; i++) {
            found.add(mixed * i);
            found.add(mixed * i | mixed * (i + 100));
        }
        return found;
    }

    private static int given(MovedFrames x) {
        return x.kmalloc(8) / 16;
    }

    /** All frames are free, and word w of frame f, up to frame 7, is 500 + 16 * f + w. */
    private static MovedFrames withOldWords() {
        MovedFrames x = new MovedFrames();
        x.vmalloc(8);
        for (int address = 0; address < 128; address++) {
            x.store(-2, address, 500 + address);
        }
        x.vfree(0);
        return x;
    }

    private static void zero(String what, MovedFrames x, int frame, int except) {
        for (int w = 0; w < 16; w++) {
            if (w != except) {
                check.same(what + ": word(" + frame + ", " + w + ")", x.word(frame, w), 0);
            }
        }
    }

    private static void old(String what, MovedFrames x, int frame) {
        for (int w = 0; w < 16; w++) {
            check.same(what + ": word(" + frame + ", " + w + ")", x.word(frame, w), 500 + 16 * frame + w);
        }
    }

    private static String told(long bits) {
        return "0x" + Long.toHexString(bits);
    }
}
