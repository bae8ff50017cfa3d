import java.util.function.Consumer;
import java.util.function.ToIntFunction;

/**
 * "An object is used for at most 512 calls after it has been made": all of the 512 are answered as the
 * document says, the last one too, and what was used and given back can be used again as often.
 */
public final class LongUseTest {
    private static final int CALLS = 512;

    private static final Check check = new Check();

    public static void main(String[] args) {
        check.sentence("An object is used for at most 512 calls after it has been made");
        asManyObjectsAsCalls();
        objectsComeAndGo();
        objectsOfAllSizesComeAndGo();
        rangesComeAndGo();
        spacesComeAndGo();
        regionsComeAndGo();
        pagesComeAndGo();
        runsComeAndGo();
        pagesAreMovedAgainAndAgain();
        storesAndLoads();
        theLastCall();
        theLastCallsThatAnswerNothing();
        theLastCallAfterRefusedOnes();
        objectsSideBySide();
        check.end();
    }

    /** The 512th object of two words is in the last place of the last frame. */
    private static void asManyObjectsAsCalls() {
        MovedFrames x = new MovedFrames();
        for (int i = 0; i < CALLS; i++) {
            check.same("kmalloc(2), call " + (i + 1), x.kmalloc(2), 2 * i);
        }
        MovedFrames y = new MovedFrames();
        for (int i = 0; i < 128; i++) {
            y.kmalloc(8);
        }
        for (int i = 128; i < CALLS; i++) {
            check.notEnough("kmalloc(8), call " + (i + 1), () -> y.kmalloc(8));
        }
    }

    private static void objectsComeAndGo() {
        MovedFrames x = new MovedFrames();
        for (int i = 0; i < CALLS; i += 2) {
            check.same("kmalloc(4), call " + (i + 1), x.kmalloc(4), 0);
            x.kfree(0);
        }
    }

    /** One object stays, so that the slab of its size does; those of the other sizes come and go. */
    private static void objectsOfAllSizesComeAndGo() {
        MovedFrames x = new MovedFrames();
        check.same("the one that stays", x.kmalloc(4), 0);
        for (int i = 1; i + 6 <= CALLS; i += 6) {
            check.same("kmalloc(2)", x.kmalloc(2), 16);
            check.same("kmalloc(8)", x.kmalloc(8), 32);
            check.same("kmalloc(3)", x.kmalloc(3), 4);
            x.kfree(16);
            x.kfree(4);
            x.kfree(32);
        }
        check.same("free()", x.free(), 63);
    }

    private static void rangesComeAndGo() {
        MovedFrames x = new MovedFrames();
        for (int i = 0; i < CALLS; i += 4) {
            int n = 1 + i / 4 % 8;
            check.same("vmalloc(" + n + ")", x.vmalloc(n), 0);
            check.same("vmalloc(8) behind it", x.vmalloc(8), 16 * n);
            check.same("vfree(0)", x.vfree(0), n);
            check.same("vfree(" + 16 * n + ")", x.vfree(16 * n), 8);
        }
    }

    private static void spacesComeAndGo() {
        MovedFrames x = new MovedFrames();
        for (int i = 0; i < CALLS; i += 2) {
            check.same("create(), call " + (i + 1), x.create(), 0);
            check.same("destroy(0), call " + (i + 2), x.destroy(0), 1);
        }
        MovedFrames y = new MovedFrames();
        for (int i = 0; i + 4 <= CALLS; i += 4) {
            check.same("create(), call " + (i + 1), y.create(), 0);
            y.mmap(0, 192, 64);
            check.same("load(0, 4095), call " + (i + 3), y.load(0, 4095), 0);
            check.same("destroy(0), call " + (i + 4), y.destroy(0), 3);
        }
    }

    private static void regionsComeAndGo() {
        MovedFrames x = new MovedFrames();
        x.create();
        for (int i = 1; i + 2 <= CALLS; i += 2) {
            int n = 1 + i % 64;
            x.mmap(0, 256 - n, n);
            check.same("munmap of " + n, x.munmap(0, 256 - n, n), 0);
        }
        check.same("free()", x.free(), 63);
    }

    /** One page after the other, in all sixteen tables: two frames do for them all. */
    private static void pagesComeAndGo() {
        MovedFrames x = new MovedFrames();
        x.create();
        for (int first = 0; first < 256; first += 64) {
            x.mmap(0, first, 64);
        }
        for (int page = 0; page < 253; page++) {
            check.same("load of page " + page, x.load(0, 16 * page), 0);
            check.same("munmap of page " + page, x.munmap(0, page, 1), 1);
        }
        check.same("free()", x.free(), 63);
    }

    private static void runsComeAndGo() {
        for (int order = 0; order <= 5; order++) {
            MovedFrames x = new MovedFrames();
            for (int i = 0; i < CALLS; i += 2) {
                check.same("contig(" + order + "), call " + (i + 1), x.contig(order), 0);
                check.same("release(0), call " + (i + 2), x.release(0), 1 << order);
            }
        }
    }

    /** The page goes from frame 2 to 4 and back, as often as 511 calls let it. */
    private static void pagesAreMovedAgainAndAgain() {
        MovedFrames x = new MovedFrames();
        x.create();
        x.mmap(0, 0, 1);
        x.store(0, 7, 1234);
        for (int i = 3; i + 4 < CALLS; i += 4) {
            check.same("contig(1), call " + (i + 1), x.contig(1), 2);
            check.same("release(2), call " + (i + 2), x.release(2), 2);
            check.same("contig(2), call " + (i + 3), x.contig(2), 4);
            check.same("release(4), call " + (i + 4), x.release(4), 4);
        }
        check.same("moved(), call 512", x.moved(), 254);
        MovedFrames y = new MovedFrames();
        y.create();
        y.mmap(0, 0, 1);
        y.store(0, 7, 1234);
        for (int i = 3; i + 4 < CALLS; i += 4) {
            y.contig(1);
            y.release(2);
            y.contig(2);
            y.release(4);
        }
        check.same("load(0, 7), call 512", y.load(0, 7), 1234);
    }

    private static void storesAndLoads() {
        MovedFrames x = new MovedFrames();
        x.create();
        x.mmap(0, 0, 64);
        for (int i = 0; i < 255; i++) {
            x.store(0, 2 * i, 9000 + i);
        }
        for (int i = 0; i < 255; i++) {
            check.same("load(0, " + 2 * i + ")", x.load(0, 2 * i), 9000 + i);
        }
    }

    /** Each call as the 512th one, and what it answers then. */
    private static void theLastCall() {
        check.same("kmalloc(8)", last(x -> x.kmalloc(8)), 16 * 7);
        check.same("kmalloc(2)", last(x -> x.kmalloc(2)), 16 * 3 + 2);
        check.same("vmalloc(2)", last(x -> x.vmalloc(2)), 16 * 3);
        check.same("vfree(0)", last(x -> x.vfree(0)), 3);
        check.same("create()", last(MovedFrames::create), 1);
        check.same("destroy(0)", last(x -> x.destroy(0)), 3);
        check.same("munmap(0, 0, 64)", last(x -> x.munmap(0, 0, 64)), 1);
        check.same("load(0, 0)", last(x -> x.load(0, 0)), 1);
        check.same("load(0, 16)", last(x -> x.load(0, 16)), 0);
        check.same("load(-1, 48)", last(x -> x.load(-1, 48)), 2);
        check.same("load(-2, 47)", last(x -> x.load(-2, 47)), 3);
        check.same("contig(0)", last(x -> x.contig(0)), 2);
        check.same("contig(5)", last(x -> x.contig(5)), 32);
        check.same("release(8)", last(x -> x.release(8)), 8);
        check.same("owner(15)", last(x -> x.owner(15)), 5);
        check.same("frame(0, 0)", last(x -> x.frame(0, 0)), 2);
        check.same("frame(-2, 2)", last(x -> x.frame(-2, 2)), 6);
        check.same("word(6, 15)", last(x -> x.word(6, 15)), 3);
        check.same("blocks(4)", last(x -> x.blocks(4)), 1);
        check.same("free()", last(MovedFrames::free), 64 - 15);
        check.same("moved()", last(MovedFrames::moved), 0);
        check.badArgument("kmalloc(9)", () -> last(x -> x.kmalloc(9)));
        check.badArgument("vfree(16)", () -> last(x -> x.vfree(16)));
        check.fault("load(0, 1024)", () -> last(x -> x.load(0, 1024)));
    }

    /** Calls that answer nothing, each as the 511th: the 512th shows what they did. */
    private static void theLastCallsThatAnswerNothing() {
        check.fault("load(-1, 48) after kfree(48)", () -> lastTwo(x -> x.kfree(48), x -> x.load(-1, 48)));
        check.same("load(0, 1024) after mmap(0, 64, 64)",
            lastTwo(x -> x.mmap(0, 64, 64), x -> x.load(0, 1024)), 0);
        check.same("word(2, 9) after store(0, 9, 5)", lastTwo(x -> x.store(0, 9, 5), x -> x.word(2, 9)), 5);
        check.notEnough("the second contig(5)", () -> lastTwo(x -> x.contig(5), x -> x.contig(5)));
    }

    private static int last(ToIntFunction<MovedFrames> call) {
        return call.applyAsInt(usedFor(CALLS - 1));
    }

    private static int lastTwo(Consumer<MovedFrames> call, ToIntFunction<MovedFrames> last) {
        MovedFrames x = usedFor(CALLS - 2);
        call.accept(x);
        return last.applyAsInt(x);
    }

    /** Frames: 0 a root, 1 a table, 2 a page, 3 a slab, 4 .. 6 a range, 8 .. 15 a run. */
    private static MovedFrames usedFor(int calls) {
        MovedFrames x = new MovedFrames();
        x.create();
        x.mmap(0, 0, 64);
        x.store(0, 0, 1);
        x.kmalloc(2);
        x.store(-1, 48, 2);
        x.vmalloc(3);
        x.store(-2, 47, 3);
        x.contig(3);
        for (int i = 8; i < calls; i++) {
            check.same("free(), call " + (i + 1), x.free(), 64 - 15);
        }
        return x;
    }

    private static void theLastCallAfterRefusedOnes() {
        MovedFrames x = new MovedFrames();
        for (int i = 0; i < CALLS - 1; i++) {
            int wrong = 9 + i;
            switch (i % 6) {
                case 0 -> check.badArgument("kmalloc", () -> x.kmalloc(wrong));
                case 1 -> check.badArgument("vmalloc", () -> x.vmalloc(-wrong));
                case 2 -> check.fault("load", () -> x.load(-1, wrong));
                case 3 -> check.badArgument("destroy", () -> x.destroy(0));
                case 4 -> check.badArgument("release", () -> x.release(wrong));
                default -> check.badArgument("contig", () -> x.contig(wrong));
            }
        }
        check.same("contig(5), call 512", x.contig(5), 0);
    }

    /** Objects that get the same calls in turns answer as if each were alone. */
    private static void objectsSideBySide() {
        MovedFrames[] all = {new MovedFrames(), new MovedFrames(), new MovedFrames()};
        for (int round = 0; round < 60; round++) {
            for (int i = 0; i < all.length; i++) {
                MovedFrames x = all[i];
                check.same("kmalloc(8) of object " + i, x.kmalloc(8), 8 * round);
                x.store(-1, 8 * round, 1000 * i + round);
            }
        }
        for (int i = 0; i < all.length; i++) {
            check.same("free() of object " + i, all[i].free(), 34);
            for (int round = 0; round < 60; round++) {
                check.same("load of object " + i, all[i].load(-1, 8 * round), 1000 * i + round);
            }
        }
    }
}
