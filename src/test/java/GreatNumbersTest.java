import java.util.Set;
import java.util.TreeSet;

/**
 * Numbers far from all that there is, the least and the greatest int among them: every call takes them
 * for what they are, also where a sum or a product with them wraps around to a number that would do.
 */
public final class GreatNumbersTest {
    private static final Check check = new Check();

    public static void main(String[] args) {
        for (int far : farNumbers()) {
            numbersOfThings(far);
            spaces(far);
            pages(far);
            addresses(far);
            asked(far);
        }
        sumsThatWrapAround();
        productsThatWrapAround();
        shiftsThatWrapAround();
        valuesOfAnySize();
        check.end();
    }

    private static void numbersOfThings(int far) {
        check.sentence("1 .. 8, 0 .. 5, none begins there: IllegalArgumentException");
        MovedFrames x = withSomeOfAll();
        check.badArgument("kmalloc(" + far + ")", () -> x.kmalloc(far));
        check.badArgument("vmalloc(" + far + ")", () -> x.vmalloc(far));
        check.badArgument("contig(" + far + ")", () -> x.contig(far));
        check.badArgument("kfree(" + far + ")", () -> x.kfree(far));
        check.badArgument("vfree(" + far + ")", () -> x.vfree(far));
        check.badArgument("release(" + far + ")", () -> x.release(far));
        check.badArgument("destroy(" + far + ")", () -> x.destroy(far));
        allIsStillThere(x);
    }

    private static void spaces(int far) {
        check.sentence("IllegalArgumentException if the space is not there");
        MovedFrames x = withSomeOfAll();
        check.badArgument("mmap(" + far + ", 9, 1)", () -> x.mmap(far, 9, 1));
        check.badArgument("munmap(" + far + ", 0, 1)", () -> x.munmap(far, 0, 1));
        check.badArgument("load(" + far + ", 0)", () -> x.load(far, 0));
        check.badArgument("store(" + far + ", 0, 1)", () -> x.store(far, 0, 1));
        check.badArgument("load(" + far + ", " + far + ")", () -> x.load(far, far));
        check.badArgument("load(" + far + ", " + -far + ")", () -> x.load(far, -far));
        check.badArgument("store(" + far + ", " + far + ", 1)", () -> x.store(far, far, 1));
        allIsStillThere(x);
    }

    private static void pages(int far) {
        check.sentence("IllegalArgumentException if .. n is not 1 .. 64, one of them is no page");
        MovedFrames x = withSomeOfAll();
        int[][] wrong = {{far, 1}, {far, 2}, {far, 64}, {0, far}, {9, far}, {255, far}, {far, far}, {far, -far},
            {far, 1 - far}, {-far, far}, {far, 256 - far}, {256 - far, far}, {far, far + 1}, {far, 0}};
        for (int[] w : wrong) {
            String told = "(0, " + w[0] + ", " + w[1] + ")";
            check.badArgument("mmap" + told, () -> x.mmap(0, w[0], w[1]));
            check.badArgument("munmap" + told, () -> x.munmap(0, w[0], w[1]));
            check.badArgument("munmap of space 1" + told, () -> x.munmap(1, w[0], w[1]));
        }
        allIsStillThere(x);
    }

    private static void addresses(int far) {
        check.sentence("IndexOutOfBoundsException: a FAULT, there is nothing at that address");
        MovedFrames x = withSomeOfAll();
        for (int space = -2; space <= 1; space++) {
            int of = space;
            check.fault("load(" + space + ", " + far + ")", () -> x.load(of, far));
            check.fault("store(" + space + ", " + far + ", 1)", () -> x.store(of, far, 1));
        }
        allIsStillThere(x);
    }

    private static void asked(int far) {
        check.sentence("-1 if there is none; 0 if there is none; 0 for an order that is not 0 .. 6");
        MovedFrames x = withSomeOfAll();
        check.same("owner(" + far + ")", x.owner(far), -1);
        for (int space = -2; space <= 1; space++) {
            check.same("frame(" + space + ", " + far + ")", x.frame(space, far), -1);
        }
        for (int page = 0; page < 2; page++) {
            check.same("frame(" + far + ", " + page + ")", x.frame(far, page), -1);
        }
        check.same("frame(" + far + ", " + far + ")", x.frame(far, far), -1);
        check.same("frame(" + far + ", " + -256 * far + ")", x.frame(far, -256 * far), -1);
        for (int i = 0; i < 4; i++) {
            check.same("word(" + far + ", " + i + ")", x.word(far, i), 0);
            check.same("word(" + i + ", " + far + ")", x.word(i, far), 0);
        }
        check.same("word(" + far + ", " + far + ")", x.word(far, far), 0);
        check.same("word(" + far + ", " + -16 * far + ")", x.word(far, -16 * far), 0);
        check.same("word(" + -far + ", " + 16 * far + ")", x.word(-far, 16 * far), 0);
        check.same("blocks(" + far + ")", x.blocks(far), 0);
    }

    private static void sumsThatWrapAround() {
        check.sentence("IllegalArgumentException if .. one of them is no page");
        MovedFrames x = withSomeOfAll();
        for (int n = 1; n <= 64; n++) {
            int length = n;
            // The sum is the least int, and with one page less it is the greatest one.
            check.badArgument("mmap, sum 2^31, n " + n, () -> x.mmap(0, Integer.MAX_VALUE - length + 1, length));
            check.badArgument("munmap, sum 2^31, n " + n, () -> x.munmap(0, Integer.MAX_VALUE - length + 1, length));
            check.badArgument("mmap, greatest page, n " + n, () -> x.mmap(0, Integer.MAX_VALUE, length));
            check.badArgument("mmap, sum 0, n " + n, () -> x.mmap(0, -length, length));
            check.badArgument("munmap, sum 0, n " + n, () -> x.munmap(0, -length, length));
        }
        allIsStillThere(x);
    }

    private static void productsThatWrapAround() {
        check.sentence("-1 if there is none; 0 if there is none");
        MovedFrames x = withSomeOfAll();
        for (int i = 1; i < 16; i++) {
            for (int frame = 0; frame < 4; frame++) {
                // 16 * 2^28 and 256 * 2^24 are 2^32, which wraps around to 0.
                check.same("word of a frame and " + i + " * 2^28", x.word(frame + (i << 28), 1), 0);
            }
            check.same("frame of space 0 and " + i + " * 2^24", x.frame(i << 24, 0), -1);
            check.same("frame of space 1 and " + i + " * 2^24", x.frame(1 + (i << 24), 0), -1);
            check.same("frame of page 0 and " + i + " * 2^28", x.frame(0, i << 28), -1);
            check.same("frame of range page 0 and " + i + " * 2^28", x.frame(-2, i << 28), -1);
            int wrong = i << 28;
            check.fault("load(-2, " + wrong + ")", () -> x.load(-2, wrong));
            check.fault("load(0, " + wrong + ")", () -> x.load(0, wrong));
            check.badArgument("vfree(" + wrong + ")", () -> x.vfree(wrong));
            check.badArgument("load(" + wrong + ", 0)", () -> x.load(wrong, 0));
            check.badArgument("destroy(" + (wrong >> 4) + ")", () -> x.destroy(wrong >> 4));
        }
        allIsStillThere(x);
    }

    private static void shiftsThatWrapAround() {
        check.sentence("order 0 .. 5, else IllegalArgumentException; 0 for an order that is not 0 .. 6");
        for (int order = -130; order <= 130; order++) {
            int k = order;
            MovedFrames x = new MovedFrames();
            check.same("blocks(" + order + ")", x.blocks(order), order == 6 ? 1 : 0);
            if (order >= 0 && order <= 5) {
                check.same("contig(" + order + ")", x.contig(order), 0);
            } else {
                check.badArgument("contig(" + order + ")", () -> x.contig(k));
            }
            // The run's buddy is left, or all frames are.
            check.same("blocks(" + order + ") then", x.blocks(order), order >= 0 && order <= 6 ? 1 : 0);
        }
    }

    private static void valuesOfAnySize() {
        check.sentence("The word at an address becomes v");
        int[] values = {0, 1, -1, Integer.MIN_VALUE, Integer.MAX_VALUE, 1 << 16, 255, 256, -256, 0x55555555};
        MovedFrames x = withSomeOfAll();
        for (int v : values) {
            for (int space = -2; space <= 1; space++) {
                x.store(space, 1, v);
                check.same("load(" + space + ", 1) of " + v, x.load(space, 1), v);
            }
            check.same("word(0, 1) of " + v, x.word(0, 1), v);
        }
        check.same("the word before it", x.load(0, 0), 41);
        check.same("the word behind it", x.load(0, 2), 0);
    }

    /** What is near 2^13 and all greater powers of 2, on both sides of 0, and the ends of the ints. */
    private static Set<Integer> farNumbers() {
        Set<Integer> found = new TreeSet<>();
        int[] near = {-256, -64, -16, -15, -1, 0, 1, 2, 15, 16, 48, 64, 255};
        for (int power = 13; power <= 31; power++) {
            for (int by : near) {
                found.add((1 << power) + by);
                found.add(-(1 << power) + by);
            }
        }
        return found;
    }

    /** Frame 0 has small objects, 1 .. 3 a range; spaces 0 and 1 have a page each, in a region of eight. */
    private static MovedFrames withSomeOfAll() {
        MovedFrames x = new MovedFrames();
        x.kmalloc(8);
        x.kmalloc(8);
        x.vmalloc(3);
        for (int frame = 0; frame < 4; frame++) {
            for (int w = 0; w < 4; w++) {
                x.store(frame == 0 ? -1 : -2, frame == 0 ? w : 16 * (frame - 1) + w, 11 + w);
            }
        }
        for (int space = 0; space < 2; space++) {
            x.create();
            x.mmap(space, 0, 8);
            x.store(space, 0, 41 + space);
        }
        x.contig(0);
        return x;
    }

    /** The page of space 0 was moved for the run; calls that throw are to have left the rest. */
    private static void allIsStillThere(MovedFrames x) {
        check.same("owners after calls that threw", Arrange.owners(x),
            Arrange.ownersOf("SrrrRTXRTpp" + ".".repeat(53)));
        check.same("load(0, 0)", x.load(0, 0), 41);
        check.same("load(1, 0)", x.load(1, 0), 42);
        check.same("load(-1, 3)", x.load(-1, 3), 14);
        check.same("load(-2, 35)", x.load(-2, 35), 14);
    }
}
