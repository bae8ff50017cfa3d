/** Promises 2 and 3, and 10 and 11 for small objects. */
public final class SmallObjectsTest {
    private static final Check check = new Check();

    public static void main(String[] args) {
        sizes();
        wrongSizes();
        nothingFree();
        placesInASlab();
        lowestPlaceThatIsNotTaken();
        lowestSlabOfItsSize();
        fullSlabsArePassedOver();
        slabsOfOtherSizesArePassedOver();
        newSlabOnlyIfThereIsNoPlace();
        roomInASlabNeedsNoFrame();
        emptySlabIsFree();
        emptySlabTakesAnySize();
        addresses();
        wordsAreZeroAtFirst();
        onlyItsOwnWordsAreZero();
        noneBeginsThere();
        goneOnce();
        loadAndStore();
        faults();
        check.end();
    }

    private static void sizes() {
        check.sentence("A small object of at least n words (1 .. 8 ..), as small as may be");
        int[] due = {2, 2, 4, 4, 8, 8, 8, 8};
        for (int n = 1; n <= 8; n++) {
            MovedFrames x = new MovedFrames();
            check.same("first kmalloc(" + n + ")", x.kmalloc(n), 0);
            check.same("second kmalloc(" + n + ")", x.kmalloc(n), due[n - 1]);
            check.same("owner(0) after kmalloc(" + n + ")", x.owner(0), 2);
            check.same("free() after kmalloc(" + n + ")", x.free(), 63);
            int last = 2 * due[n - 1] - 1;
            check.same("its last word", x.load(-1, last), 0);
            check.fault("the word behind it", () -> x.load(-1, last + 1));
        }
    }

    private static void wrongSizes() {
        check.sentence("n words (1 .. 8, else IllegalArgumentException)");
        int[] wrong = {0, 9, -1, -8, 10, 16, 17, Integer.MIN_VALUE, Integer.MIN_VALUE + 1, Integer.MAX_VALUE};
        for (int n : wrong) {
            MovedFrames x = new MovedFrames();
            check.badArgument("kmalloc(" + n + ")", () -> x.kmalloc(n));
            MovedFrames full = Arrange.allTaken();
            check.badArgument("kmalloc(" + n + ") with nothing free", () -> full.kmalloc(n));
        }
    }

    private static void nothingFree() {
        check.sentence("IllegalStateException: there is not enough that is free");
        for (int n = 1; n <= 8; n++) {
            int words = n;
            MovedFrames full = Arrange.allTaken();
            check.notEnough("kmalloc(" + n + ") with no frame free", () -> full.kmalloc(words));
            MovedFrames one = Arrange.free(1L << 40);
            check.same("kmalloc(" + n + ") with one frame free", one.kmalloc(n), 16 * 40);
            check.same("free()", one.free(), 0);
        }
    }

    private static void placesInASlab() {
        check.sentence("the first one at its word 0, the next ones behind it");
        int[] sizes = {2, 4, 8};
        for (int size : sizes) {
            MovedFrames x = new MovedFrames();
            for (int i = 0; i < 16 / size; i++) {
                check.same("object " + i + " of size " + size, x.kmalloc(size), i * size);
            }
            check.same("the next slab of size " + size, x.kmalloc(size), 16);
            check.same("free() with two slabs", x.free(), 62);
        }
    }

    /** Every set of taken places of a slab, but the empty one: then it is no slab. */
    private static void lowestPlaceThatIsNotTaken() {
        check.sentence("A new object takes the lowest place that is not taken");
        int[] sizes = {2, 4, 8};
        for (int size : sizes) {
            int places = 16 / size;
            for (int taken = 1; taken < 1 << places; taken++) {
                MovedFrames x = new MovedFrames();
                for (int i = 0; i < places; i++) {
                    x.kmalloc(size);
                }
                for (int i = 0; i < places; i++) {
                    if ((taken >> i & 1) == 0) {
                        x.kfree(i * size);
                    }
                }
                int due = Integer.numberOfTrailingZeros(~taken) * size;
                check.same("size " + size + ", taken " + Integer.toBinaryString(taken), x.kmalloc(size), due);
            }
        }
    }

    /** The lowest slab by its frame: it is neither the oldest nor the newest one. */
    private static void lowestSlabOfItsSize() {
        check.sentence("of the lowest slab of its size that has one");
        MovedFrames x = Arrange.layout("SSS");
        x.kfree(16 * 2);
        x.kfree(16);
        check.same("slab 1 before slab 2", x.kmalloc(8), 16);
        x.kfree(16);
        x.kfree(8);
        check.same("slab 0 before slab 1, its place 1 before place 0 there", x.kmalloc(8), 8);
        check.same("then slab 1", x.kmalloc(8), 16);
        check.same("then slab 2", x.kmalloc(8), 32);
        MovedFrames late = Arrange.free(1L << 63);
        check.same("the first slab is the last frame", late.kmalloc(2), 16 * 63);
        for (int i = 1; i < 8; i++) {
            late.kmalloc(2);
        }
        late.vfree(16 * 20);
        check.same("the second slab is below", late.kmalloc(2), 16 * 20);
        late.kfree(16 * 63);
        check.same("the lower slab is the newer one", late.kmalloc(2), 16 * 20 + 2);
    }

    private static void fullSlabsArePassedOver() {
        check.sentence("of the lowest slab of its size that has one");
        MovedFrames x = new MovedFrames();
        for (int i = 0; i < 12; i++) {
            x.kmalloc(4);
        }
        x.kfree(44);
        check.same("the last place of the third slab", x.kmalloc(3), 44);
        x.kfree(28);
        check.same("the last place of the second slab", x.kmalloc(4), 28);
        check.same("a new slab, all others are full", x.kmalloc(4), 48);
    }

    private static void slabsOfOtherSizesArePassedOver() {
        check.sentence("of the lowest slab of its size that has one");
        MovedFrames x = new MovedFrames();
        check.same("the first of size 8", x.kmalloc(8), 0);
        check.same("the first of size 2", x.kmalloc(2), 16);
        check.same("the first of size 4", x.kmalloc(4), 32);
        check.same("the second of size 2", x.kmalloc(1), 18);
        check.same("the second of size 4", x.kmalloc(3), 36);
        check.same("the second of size 8", x.kmalloc(5), 8);
        check.same("the third of size 8", x.kmalloc(6), 48);
    }

    private static void newSlabOnlyIfThereIsNoPlace() {
        check.sentence("if there is none, a frame is given to a new slab");
        MovedFrames x = Arrange.free(0b10110);
        check.same("the lowest block of order 0", x.kmalloc(8), 16);
        check.same("no new slab", x.kmalloc(8), 24);
        check.same("free() with one slab", x.free(), 2);
        check.same("the next block of order 0", x.kmalloc(8), 32);
        x.kfree(16);
        check.same("a place that has become free", x.kmalloc(8), 16);
        check.same("a place in the second slab", x.kmalloc(8), 40);
        check.same("the last frame", x.kmalloc(8), 64);
        check.same("owner(4)", x.owner(4), 2);
        check.same("free() with three slabs", x.free(), 0);
    }

    private static void roomInASlabNeedsNoFrame() {
        check.sentence("A new object takes the lowest place .. if there is none, a frame is given");
        MovedFrames x = Arrange.free(1L << 63);
        check.same("kmalloc in the last frame", x.kmalloc(5), 1008);
        check.same("kmalloc in the same slab", x.kmalloc(5), 1016);
        check.notEnough("kmalloc(8) with the slab full", () -> x.kmalloc(8));
        check.notEnough("kmalloc(2) in a slab of size 8", () -> x.kmalloc(2));
        x.kfree(1008);
        check.notEnough("kmalloc(2), though size 8 has room", () -> x.kmalloc(2));
        check.notEnough("kmalloc(4), though size 8 has room", () -> x.kmalloc(4));
        check.same("kmalloc in the same place", x.kmalloc(8), 1008);
    }

    private static void emptySlabIsFree() {
        check.sentence("A slab without objects is free");
        int[] sizes = {2, 4, 8};
        for (int size : sizes) {
            for (int last = 0; last < 16; last += size) {
                MovedFrames x = new MovedFrames();
                for (int i = 0; i < 16; i += size) {
                    x.kmalloc(size);
                }
                for (int i = 0; i < 16; i += size) {
                    if (i != last) {
                        x.kfree(i);
                        check.same("owner(0) with an object left", x.owner(0), 2);
                        check.same("free() with an object left", x.free(), 63);
                    }
                }
                x.kfree(last);
                check.same("owner(0) with none left", x.owner(0), 0);
                check.same("free() with none left", x.free(), 64);
                check.same("blocks(6) with none left", x.blocks(6), 1);
            }
        }
    }

    private static void emptySlabTakesAnySize() {
        check.sentence("A slab without objects is free");
        MovedFrames x = new MovedFrames();
        x.kmalloc(2);
        x.kmalloc(2);
        x.kfree(0);
        check.same("a slab of size 8 beside", x.kmalloc(8), 16);
        x.kfree(2);
        check.same("a second object of size 8", x.kmalloc(8), 24);
        check.same("the free frame for size 4", x.kmalloc(4), 0);
        check.same("the next of size 4", x.kmalloc(4), 4);
        check.badArgument("kfree(2) in a slab of size 4", () -> x.kfree(2));
        check.same("the next slab of size 2", x.kmalloc(2), 32);
        x.kfree(0);
        x.kfree(4);
        x.vmalloc(1);
        check.same("the frame has become a range's", x.owner(0), 3);
        check.badArgument("kfree(0) of a range", () -> x.kfree(0));
        check.same("the next of size 4 is elsewhere", x.kmalloc(4), 48);
    }

    private static void addresses() {
        check.sentence("Its ADDRESS is 16 * the frame + its first word");
        for (int frame = 0; frame < 64; frame++) {
            MovedFrames x = Arrange.free(1L << frame);
            for (int i = 0; i < 4; i++) {
                check.same("object " + i + " in frame " + frame, x.kmalloc(4), 16 * frame + 4 * i);
            }
            x.store(-1, 16 * frame + 15, -3);
            check.same("its last word", x.word(frame, 15), -3);
        }
    }

    private static void wordsAreZeroAtFirst() {
        check.sentence("An object's words are 0 at first");
        int[] sizes = {2, 4, 8};
        for (int size : sizes) {
            for (int place = 0; place < 16; place += size) {
                MovedFrames x = fullOfWords(size);
                x.kfree(place);
                check.same("kmalloc(" + size + ")", x.kmalloc(size), place);
                for (int w = place; w < place + size; w++) {
                    check.same("load(-1, " + w + ") of size " + size, x.load(-1, w), 0);
                }
            }
        }
        MovedFrames five = fullOfWords(8);
        five.kfree(8);
        five.kmalloc(5);
        check.same("the last of 8 words, of which 5 were asked", five.load(-1, 15), 0);
    }

    private static void onlyItsOwnWordsAreZero() {
        check.sentence("An object's words are 0 at first");
        int[] sizes = {2, 4, 8};
        for (int size : sizes) {
            for (int place = 0; place < 16; place += size) {
                MovedFrames x = fullOfWords(size);
                x.kfree(place);
                x.kmalloc(size);
                for (int w = 0; w < 16; w++) {
                    boolean own = w >= place && w < place + size;
                    check.same("load(-1, " + w + ") of size " + size, x.load(-1, w), own ? 0 : 100 + w);
                }
            }
        }
    }

    private static void noneBeginsThere() {
        check.sentence("kfree: IllegalArgumentException if none begins there");
        int[] sizes = {2, 4, 8};
        for (int size : sizes) {
            // The slab is frame 5, every second place of it is taken, and it is not the first frame.
            MovedFrames x = Arrange.layout("RTprX");
            x.vfree(16 * 5);
            for (int i = 0; i < 16; i += size) {
                x.kmalloc(size);
            }
            for (int i = size; i < 16; i += 2 * size) {
                x.kfree(16 * 5 + i);
            }
            for (int address = -20; address < 16 * 8; address++) {
                int from = address - 16 * 5;
                if (from < 0 || from >= 16 || from % (2 * size) != 0) {
                    int wrong = address;
                    check.badArgument("kfree(" + address + "), size " + size, () -> x.kfree(wrong));
                }
            }
            for (int i = 0; i < 16; i += 2 * size) {
                x.kfree(16 * 5 + i);
            }
            check.same("owner(5) at the end", x.owner(5), 0);
        }
        MovedFrames last = Arrange.free(1L << 63);
        last.kmalloc(8);
        int[] wrong = {1009, 1012, 1015, 1016, 1023, 1024, 1025, 2032, -16, -8, Integer.MIN_VALUE,
            Integer.MIN_VALUE + 1008, Integer.MAX_VALUE, Integer.MAX_VALUE - 15};
        for (int address : wrong) {
            check.badArgument("kfree(" + address + ")", () -> last.kfree(address));
        }
        last.kfree(1008);
    }

    private static void goneOnce() {
        check.sentence("The small object at an address is gone");
        MovedFrames x = new MovedFrames();
        x.kmalloc(8);
        x.kmalloc(8);
        x.kfree(0);
        check.badArgument("kfree(0) twice, in a slab", () -> x.kfree(0));
        check.fault("load of it", () -> x.load(-1, 0));
        check.same("load of the other one", x.load(-1, 8), 0);
        x.kfree(8);
        check.badArgument("kfree(8) twice, in a free frame", () -> x.kfree(8));
        check.fault("load of that one", () -> x.load(-1, 8));
        check.badArgument("kfree(0) of a free frame", () -> x.kfree(0));
    }

    private static void loadAndStore() {
        check.sentence("The word at an address: .. -1: of a small object");
        MovedFrames x = new MovedFrames();
        x.vmalloc(1);
        x.kmalloc(2);
        x.kmalloc(2);
        x.kfree(16);
        x.store(-1, 18, Integer.MIN_VALUE);
        x.store(-1, 19, -7);
        check.same("load(-1, 18)", x.load(-1, 18), Integer.MIN_VALUE);
        check.same("load(-1, 19)", x.load(-1, 19), -7);
        check.same("word(1, 3)", x.word(1, 3), -7);
        x.store(-1, 18, Integer.MAX_VALUE);
        check.same("load(-1, 18) again", x.load(-1, 18), Integer.MAX_VALUE);
        check.same("load(-1, 19) beside it", x.load(-1, 19), -7);
    }

    /** A fault in each kind of frame, in a place that is not taken, and outside of all frames. */
    private static void faults() {
        check.sentence("IndexOutOfBoundsException for a fault");
        MovedFrames x = Arrange.layout("RTprX.");
        x.kmalloc(2);
        x.kmalloc(2);
        x.kfree(16 * 5);
        for (int address = -20; address < 16 * 7; address++) {
            if (address != 16 * 5 + 2 && address != 16 * 5 + 3) {
                int wrong = address;
                check.fault("load(-1, " + address + ")", () -> x.load(-1, wrong));
                check.fault("store(-1, " + address + ", 1)", () -> x.store(-1, wrong, 1));
            }
        }
        MovedFrames last = Arrange.free(1L << 63);
        last.kmalloc(8);
        last.kmalloc(8);
        check.same("load(-1, 1023)", last.load(-1, 1023), 0);
        int[] wrong = {1024, 1025, 2047, -1, -8, -16, -1024, Integer.MIN_VALUE, Integer.MAX_VALUE,
            Integer.MIN_VALUE + 1023, Integer.MAX_VALUE - 1023};
        for (int address : wrong) {
            check.fault("load(-1, " + address + ")", () -> last.load(-1, address));
            check.fault("store(-1, " + address + ", 1)", () -> last.store(-1, address, 1));
        }
    }

    /** A slab with all places taken, word w of it is 100 + w. */
    private static MovedFrames fullOfWords(int size) {
        MovedFrames x = new MovedFrames();
        for (int i = 0; i < 16; i += size) {
            x.kmalloc(size);
        }
        for (int w = 0; w < 16; w++) {
            x.store(-1, w, 100 + w);
        }
        return x;
    }
}
