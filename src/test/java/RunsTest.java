import java.util.Random;

/** Promises 12, 13 and 19: runs, and the pages that are moved for them. */
public final class RunsTest {
    private static final Check check = new Check();

    public static void main(String[] args) {
        orders();
        wrongOrders();
        firstFramesOfRuns();
        lowestAbleNotSmallest();
        framesThatAreNotToBeMoved();
        tablesAreNotMoved();
        noBlockHasOnlyPagesAndFreeFrames();
        freeFramesOutsideJustEnough();
        freeFramesOutsideOneTooFew();
        freeFramesInsideDoNotCount();
        allFreeNeedsNothingOutside();
        blocksThatAreNotAbleArePassedOver();
        movedByRisingNumbers();
        movedToTheLowestFreeFrames();
        wordsAndEntryGoAlong();
        pagesOfSeveralSpaces();
        pagesInFramesUsedBefore();
        runOfOneFrame();
        movedPagesAreUsedOn();
        manyLayouts();
        countOfMoves();
        noneBeginsThere();
        releasedOnce();
        releaseCounts();
        check.end();
    }

    private static void orders() {
        check.sentence("A run of 2^order frames (order 0 .. 5 ..): its first frame");
        for (int order = 0; order <= 5; order++) {
            MovedFrames x = new MovedFrames();
            int n = 1 << order;
            check.same("contig(" + order + ")", x.contig(order), 0);
            check.same("the next contig(" + order + ")", x.contig(order), n);
            check.same("free()", x.free(), 64 - 2 * n);
            for (int frame = 0; frame < 64; frame++) {
                check.same("owner(" + frame + ")", x.owner(frame), frame < 2 * n ? 5 : 0);
            }
            check.same("moved()", x.moved(), 0);
        }
    }

    private static void wrongOrders() {
        check.sentence("order 0 .. 5, else IllegalArgumentException");
        int[] wrong = {-1, 6, 7, 31, 32, 33, 37, 64, -26, -27, -31, -32, Integer.MIN_VALUE, Integer.MIN_VALUE + 5,
            Integer.MAX_VALUE};
        for (int order : wrong) {
            MovedFrames x = new MovedFrames();
            check.badArgument("contig(" + order + ")", () -> x.contig(order));
            MovedFrames full = Arrange.allTaken();
            check.badArgument("contig(" + order + ") with nothing free", () -> full.contig(order));
        }
    }

    private static void firstFramesOfRuns() {
        check.sentence("A BLOCK of order k is 2^k frames, the first one's number divisible by 2^k");
        for (int order = 0; order <= 5; order++) {
            int n = 1 << order;
            MovedFrames x = new MovedFrames();
            for (int first = 0; first < 64; first += n) {
                check.same("contig(" + order + ")", x.contig(order), first);
            }
            int k = order;
            check.notEnough("contig(" + order + ") with nothing free", () -> x.contig(k));
            check.same("free()", x.free(), 0);
        }
        check.same("2, 3 and not 1, 2", Arrange.free(0b1110).contig(1), 2);
        check.same("4 .. 7 and not 1 .. 4", Arrange.free(0b11111110).contig(2), 4);
        MovedFrames odd = Arrange.free(0b0110);
        check.notEnough("1, 2 are no block", () -> odd.contig(1));
    }

    /** A run takes the lowest able block, where a frame alone would come from the smallest one. */
    private static void lowestAbleNotSmallest() {
        check.sentence("The lowest able block is taken");
        for (int order = 0; order <= 4; order++) {
            long block = (1L << (1 << order)) - 1;
            MovedFrames x = Arrange.free(0xffffffffL | block << 64 - (1 << order));
            check.same("contig(" + order + ") with a smaller free block above", x.contig(order), 0);
        }
        MovedFrames y = Arrange.free(0b10111111);
        check.same("contig(0)", y.contig(0), 0);
        check.same("contig(1)", y.contig(1), 2);
        check.same("kmalloc takes the smallest", y.kmalloc(1), 16);
        MovedFrames pages = Arrange.layout("RTpp............");
        check.same("contig(1): pages below free frames", pages.contig(1), 2);
        check.same("moved()", pages.moved(), 2);
    }

    /** One frame of another owner, at each place of a block that is free but for it. */
    private static void framesThatAreNotToBeMoved() {
        check.sentence("a block of order k is ABLE if each of its frames is free or a page's");
        String kinds = "rSXR";
        for (int kind = 0; kind < kinds.length(); kind++) {
            for (int order = 0; order <= 5; order++) {
                for (int place = 0; place < 1 << order; place++) {
                    String letters = ".".repeat(place) + kinds.charAt(kind) + ".".repeat(63 - place);
                    MovedFrames x = Arrange.layout(letters);
                    check.same("contig(" + order + "), frame " + place + " is " + kinds.charAt(kind),
                        x.contig(order), 1 << order);
                    check.same("moved()", x.moved(), 0);
                }
            }
        }
    }

    private static void tablesAreNotMoved() {
        check.sentence("a block of order k is ABLE if each of its frames is free or a page's");
        for (int order = 0; order <= 4; order++) {
            for (int place = 0; place < 1 << order; place++) {
                String letters = ".".repeat(place) + "T" + ".".repeat(60 - place) + "pRr";
                MovedFrames x = Arrange.layout(letters);
                check.same("contig(" + order + "), frame " + place + " is a table", x.contig(order), 1 << order);
            }
        }
        MovedFrames x = Arrange.layout("T" + ".".repeat(61) + "pR");
        check.notEnough("contig(5) with a table and a root in the halves", () -> x.contig(5));
    }

    private static void noBlockHasOnlyPagesAndFreeFrames() {
        check.sentence("contig: IllegalStateException if no block is able");
        String kinds = "rSX";
        for (int kind = 0; kind < kinds.length(); kind++) {
            for (int order = 1; order <= 5; order++) {
                int n = 1 << order;
                int k = order;
                String first = (kinds.charAt(kind) + ".".repeat(n - 1)).repeat(64 / n);
                String last = (".".repeat(n - 1) + kinds.charAt(kind)).repeat(64 / n);
                MovedFrames x = Arrange.layout(first);
                check.notEnough("contig(" + order + ") of " + first, () -> x.contig(k));
                MovedFrames y = Arrange.layout(last);
                check.notEnough("contig(" + order + ") of " + last, () -> y.contig(k));
                check.same("contig(" + (order - 1) + ") of " + last, y.contig(order - 1), 0);
            }
        }
        MovedFrames full = Arrange.allTaken();
        for (int order = 0; order <= 5; order++) {
            int k = order;
            check.notEnough("contig(" + order + ") with ranges alone", () -> full.contig(k));
        }
    }

    /** The upper half has a block of pages alone; the lower half has as many free frames. */
    private static void freeFramesOutsideJustEnough() {
        check.sentence("at least as many free frames outside of it as pages' frames in it");
        MovedFrames one = Arrange.layout("RTp.");
        check.same("contig(0) of a page with one frame free", one.contig(0), 2);
        check.same("frame(0, 0)", one.frame(0, 0), 3);
        for (int order = 1; order <= 4; order++) {
            int n = 1 << order;
            MovedFrames x = Arrange.layout(lower(n) + "p".repeat(n));
            check.same("contig(" + order + ")", x.contig(order), 32);
            check.same("moved() by contig(" + order + ")", x.moved(), n);
            check.same("free() after contig(" + order + ")", x.free(), 0);
            for (int i = 0; i < n; i++) {
                check.same("frame(0, " + i + ")", x.frame(0, i), 1 + 2 * i);
                check.same("its first word", x.load(0, 16 * i), 1032 + i);
            }
        }
        // 29 is all that a half can hold beside the root and two tables.
        MovedFrames half = Arrange.layout("RTT" + ".".repeat(29) + "p".repeat(29) + "...");
        check.same("contig(5)", half.contig(5), 32);
        check.same("moved() by contig(5)", half.moved(), 29);
        check.same("free() after contig(5)", half.free(), 0);
    }

    private static void freeFramesOutsideOneTooFew() {
        check.sentence("at least as many free frames outside of it as pages' frames in it");
        for (int order = 0; order <= 4; order++) {
            int n = 1 << order;
            int k = order;
            MovedFrames x = Arrange.layout(lower(n - 1) + "p".repeat(n));
            check.notEnough("contig(" + order + ") of " + n + " pages", () -> x.contig(k));
            check.same("free()", x.free(), n - 1);
            check.same("moved()", x.moved(), 0);
        }
        MovedFrames half = Arrange.layout("RTTr" + ".".repeat(28) + "p".repeat(29) + "...");
        check.notEnough("contig(5)", () -> half.contig(5));
    }

    private static void freeFramesInsideDoNotCount() {
        check.sentence("at least as many free frames outside of it as pages' frames in it");
        MovedFrames none = Arrange.layout("RTrr" + "p..." + "rrrr");
        check.notEnough("one page, three free inside, none outside", () -> none.contig(2));
        MovedFrames one = Arrange.layout("RTr." + "p..." + "rrrr");
        check.same("one page, three free inside, one outside", one.contig(2), 4);
        check.same("frame(0, 0)", one.frame(0, 0), 3);
        MovedFrames two = Arrange.layout("RTr." + "p..p" + "rrrr");
        check.notEnough("two pages, two free inside, one outside", () -> two.contig(2));
        MovedFrames behind = Arrange.layout("RTr." + "p..p" + "rrrr".repeat(13) + "rrr.");
        check.same("two pages, one free below and one above", behind.contig(2), 4);
        check.same("frame(0, 0) then", behind.frame(0, 0), 3);
        check.same("frame(0, 1) then", behind.frame(0, 1), 63);
    }

    private static void allFreeNeedsNothingOutside() {
        check.sentence("at least as many free frames outside of it as pages' frames in it");
        for (int order = 0; order <= 5; order++) {
            int n = 1 << order;
            long block = (1L << n) - 1;
            for (int first = 0; first < 64; first += n) {
                MovedFrames x = Arrange.free(block << first);
                check.same("contig(" + order + ") in " + first, x.contig(order), first);
                check.same("free()", x.free(), 0);
            }
        }
    }

    /** Blocks 0 .. 3 and 8 .. 11 have another owner's frame; the next one has the most pages. */
    private static void blocksThatAreNotAbleArePassedOver() {
        check.sentence("The lowest able block is taken");
        MovedFrames x = Arrange.layout("RT.." + "X..." + "...r" + "pppp" + "p..." + "....");
        check.same("contig(2)", x.contig(2), 12);
        check.same("moved()", x.moved(), 4);
        check.same("contig(2) again", x.contig(2), 16);
        check.same("moved() again", x.moved(), 5);
        check.same("contig(1) of pages that were moved before", x.contig(1), 2);
        MovedFrames few = Arrange.layout("RT.r" + "X.rr" + "rr.r" + "pppp" + "p.rr");
        check.same("contig(2): four pages and four free frames", few.contig(2), 12);
        check.same("free()", few.free(), 0);
        MovedFrames fewer = Arrange.layout("RT.r" + "X.rr" + "rr.r" + "pppp" + "prrr");
        check.notEnough("contig(2): four pages and three free frames", () -> fewer.contig(2));
        check.same("contig(1): two pages and three free frames", fewer.contig(1), 12);
        check.notEnough("contig(1): two pages and one free frame", () -> fewer.contig(1));
        check.same("contig(0): the lowest page and one free frame", fewer.contig(0), 2);
    }

    private static void movedByRisingNumbers() {
        check.sentence("its pages' frames are MOVED, by rising numbers, each to the lowest free frame outside");
        MovedFrames x = Arrange.layout("RT.r" + "p.pp" + "r.r." + "rr..");
        check.same("contig(2)", x.contig(2), 4);
        check.same("moved()", x.moved(), 3);
        int[] due = {2, 9, 11};
        for (int page = 0; page < 3; page++) {
            check.same("frame(0, " + page + ")", x.frame(0, page), due[page]);
            check.same("the table's entry " + page, x.word(1, page), 1 + due[page]);
        }
        check.same("owners", Arrange.owners(x), Arrange.ownersOf("RTpr" + "XXXX" + "rprp" + "rr.."));
        // The page with the highest number lies lowest: frames count, not pages.
        MovedFrames y = new MovedFrames();
        y.create();
        y.mmap(0, 0, 16);
        y.load(0, 16 * 15);
        y.load(0, 16 * 3);
        check.same("contig(1)", y.contig(1), 2);
        check.same("frame(0, 15), which was 2", y.frame(0, 15), 4);
        check.same("frame(0, 3), which was 3", y.frame(0, 3), 5);
    }

    /** The lowest frame of all that are free, and not the one that would be given next. */
    private static void movedToTheLowestFreeFrames() {
        check.sentence("each to the lowest free frame outside of the block");
        MovedFrames below = Arrange.layout("...." + "RTrr" + "pppp" + ".r.r");
        check.same("contig(2) of free frames below", below.contig(2), 0);
        check.same("contig(1) of pages", below.contig(1), 8);
        check.same("frame(0, 0) above", below.frame(0, 0), 12);
        check.same("frame(0, 1) above", below.frame(0, 1), 14);
        MovedFrames x = Arrange.layout("r..." + "RTrr" + "pppp" + ".r.r");
        check.same("contig(2) of pages", x.contig(2), 8);
        int[] due = {1, 2, 3, 12};
        for (int page = 0; page < 4; page++) {
            check.same("frame(0, " + page + ")", x.frame(0, page), due[page]);
        }
        check.same("kmalloc in what is left", x.kmalloc(1), 16 * 14);
        MovedFrames ends = Arrange.layout(".rRT" + "r".repeat(28) + "pp" + "r".repeat(29) + ".");
        check.same("contig(1) between the ends", ends.contig(1), 32);
        check.same("frame(0, 0) in the first frame", ends.frame(0, 0), 0);
        check.same("frame(0, 1) in the last frame", ends.frame(0, 1), 63);
    }

    private static void wordsAndEntryGoAlong() {
        check.sentence("words and the entry that has it go along; then the block is given");
        MovedFrames x = Arrange.layout("RTpp............");
        for (int address = 0; address < 32; address++) {
            x.store(0, address, 3000 + address);
        }
        check.same("contig(1)", x.contig(1), 2);
        for (int address = 0; address < 32; address++) {
            int frame = 4 + address / 16;
            check.same("load(0, " + address + ")", x.load(0, address), 3000 + address);
            check.same("word of frame " + frame, x.word(frame, address % 16), 3000 + address);
            check.same("word of the run", x.word(2 + address / 16, address % 16), 0);
        }
        check.same("entry 0", x.word(1, 0), 5);
        check.same("entry 1", x.word(1, 1), 6);
        check.same("the root's entry", x.word(0, 0), 2);
        check.same("owners", Arrange.owners(x), Arrange.ownersOf("RTXXpp.........."));
    }

    private static void pagesOfSeveralSpaces() {
        check.sentence("words and the entry that has it go along");
        MovedFrames x = new MovedFrames();
        x.create();
        x.create();
        x.mmap(0, 3, 2);
        x.mmap(1, 3, 2);
        x.store(0, 48, 1);
        x.store(1, 48, 2);
        x.store(0, 64, 3);
        x.store(1, 64, 4);
        check.same("frame(0, 4)", x.frame(0, 4), 6);
        check.same("frame(1, 4)", x.frame(1, 4), 7);
        check.same("contig(1)", x.contig(1), 6);
        check.same("frame(0, 4) moved", x.frame(0, 4), 8);
        check.same("frame(1, 4) moved", x.frame(1, 4), 9);
        check.same("load(0, 64)", x.load(0, 64), 3);
        check.same("load(1, 64)", x.load(1, 64), 4);
        check.same("load(0, 48)", x.load(0, 48), 1);
        check.same("load(1, 48)", x.load(1, 48), 2);
        check.same("contig(0)", x.contig(0), 3);
        check.same("frame(0, 3) moved", x.frame(0, 3), 10);
        check.same("moved()", x.moved(), 3);
    }

    /** Frame 2 was another page's before: the entry that counts is the one of the page there now. */
    private static void pagesInFramesUsedBefore() {
        check.sentence("words and the entry that has it go along");
        MovedFrames x = new MovedFrames();
        x.create();
        x.mmap(0, 0, 64);
        x.store(0, 0, 1);
        x.store(0, 16, 2);
        check.same("munmap of page 0", x.munmap(0, 0, 1), 1);
        x.store(0, 16 * 5, 3);
        check.same("frame(0, 5), which was page 0's", x.frame(0, 5), 2);
        check.same("contig(1)", x.contig(1), 2);
        check.same("frame(0, 0)", x.frame(0, 0), -1);
        check.same("frame(0, 5)", x.frame(0, 5), 4);
        check.same("frame(0, 1)", x.frame(0, 1), 5);
        check.same("load of page 5", x.load(0, 16 * 5), 3);
        check.same("the entry of page 0", x.word(1, 0), 0);
        check.same("the entry of page 5", x.word(1, 5), 5);
    }

    private static void runOfOneFrame() {
        check.sentence("a block of order k is ABLE if each of its frames is free or a page's");
        MovedFrames x = Arrange.layout("RTp............." + "....");
        check.same("contig(0) of a page", x.contig(0), 2);
        check.same("frame(0, 0)", x.frame(0, 0), 3);
        check.same("contig(0) again", x.contig(0), 3);
        check.same("frame(0, 0) again", x.frame(0, 0), 4);
        check.same("moved()", x.moved(), 2);
        x.release(2);
        check.same("contig(0) of a free frame", x.contig(0), 2);
        check.same("contig(0) moves up again", x.contig(0), 4);
        x.release(2);
        check.same("contig(1) moves it nowhere", x.contig(1), 6);
        check.same("moved() at the end", x.moved(), 3);
        check.same("load(0, 0)", x.load(0, 0), 1002);
    }

    private static void movedPagesAreUsedOn() {
        check.sentence("words and the entry that has it go along");
        MovedFrames x = Arrange.layout("RTppp..........." + "....");
        x.contig(1);
        x.store(0, 3, 77);
        check.same("word of the new frame", x.word(x.frame(0, 0), 3), 77);
        check.same("word of the old frame", x.word(2, 3), 0);
        int free = x.free();
        check.same("munmap of two moved pages", x.munmap(0, 0, 2), 2);
        check.same("owner(2)", x.owner(2), 5);
        check.same("the table is still there", x.owner(1), 1);
        check.same("munmap of the last", x.munmap(0, 2, 1), 1);
        check.same("the table is free", x.owner(1), 0);
        check.same("free()", x.free(), free + 4);
        check.same("destroy", x.destroy(0), 1);
        check.same("release", x.release(2), 2);
        check.same("moved() after all", x.moved(), 2);
        MovedFrames y = Arrange.layout("RTppp..........." + "....");
        y.contig(1);
        check.same("destroy with moved pages", y.destroy(0), 5);
        check.same("the run stays", y.owner(3), 5);
        MovedFrames z = Arrange.layout("RTp" + "." + "....");
        z.contig(0);
        z.contig(0);
        z.contig(0);
        check.same("a page that was moved three times", z.load(0, 0), 1002);
        check.same("its frame", z.frame(0, 0), 5);
    }

    /** Layouts of all kinds, with what is due derived from their letters. */
    private static void manyLayouts() {
        check.sentence("RUNS");
        Random random = new Random(1);
        for (int round = 0; round < 600; round++) {
            String letters = anyLayout(random);
            int order = random.nextInt(6);
            MovedFrames x = Arrange.layout(letters);
            check.same("the layout", Arrange.owners(x), Arrange.ownersOf(letters));
            int first = firstAble(letters, 1 << order);
            String told = "contig(" + order + ") of " + letters;
            if (first < 0) {
                check.notEnough(told, () -> x.contig(order));
                check.same(told + ", moved()", x.moved(), 0);
                check.same(told + ", owners", Arrange.owners(x), Arrange.ownersOf(letters));
            } else {
                check.same(told, x.contig(order), first);
                lookAtMoves(told, x, letters, first, 1 << order);
            }
        }
    }

    private static String anyLayout(Random random) {
        StringBuilder letters = new StringBuilder("RTT");
        String others = random.nextInt(3) == 0 ? "rSX" : "r";
        int ofOthers = random.nextInt(12);
        int ofPages = random.nextInt(6);
        for (int frame = 3; frame < 64; frame++) {
            int choice = random.nextInt(16);
            boolean morePages = letters.chars().filter(c -> c == 'p').count() < 30;
            letters.append(choice < ofOthers ? others.charAt(random.nextInt(others.length()))
                : choice < ofOthers + ofPages && morePages ? 'p' : '.');
        }
        // Both tables are to be there, so there are two pages at least.
        letters.setCharAt(20, 'p');
        letters.setCharAt(40, 'p');
        return letters.toString();
    }

    private static int firstAble(String letters, int n) {
        for (int first = 0; first < 64; first += n) {
            String inside = letters.substring(first, first + n);
            String outside = letters.substring(0, first) + letters.substring(first + n);
            boolean movable = inside.chars().allMatch(c -> c == '.' || c == 'p');
            long pages = inside.chars().filter(c -> c == 'p').count();
            if (movable && outside.chars().filter(c -> c == '.').count() >= pages) {
                return first;
            }
        }
        return -1;
    }

    private static void lookAtMoves(String told, MovedFrames x, String letters, int first, int n) {
        StringBuilder after = new StringBuilder(letters);
        int moves = 0;
        for (int frame = 0; frame < 64; frame++) {
            if (letters.charAt(frame) == 'p') {
                int due = frame;
                if (frame >= first && frame < first + n) {
                    due = 0;
                    while (after.charAt(due) != '.' || due >= first && due < first + n) {
                        due++;
                    }
                    after.setCharAt(due, 'p');
                    moves++;
                }
                int page = Arrange.pageIn(letters, frame);
                check.same(told + ", frame(0, " + page + ")", x.frame(0, page), due);
                check.same(told + ", a word of it", x.word(due, 15), 2000 + frame);
            }
        }
        after.replace(first, first + n, "X".repeat(n));
        check.same(told + ", owners", Arrange.owners(x), Arrange.ownersOf(after.toString()));
        check.same(told + ", moved()", x.moved(), moves);
    }

    private static void countOfMoves() {
        check.sentence("moved: How many frames were moved so far");
        check.same("moved() of a new object", new MovedFrames().moved(), 0);
        MovedFrames x = Arrange.layout("RTpppp" + ".".repeat(58));
        check.same("moved() of pages that stay", x.moved(), 0);
        check.same("contig(1)", x.contig(1), 2);
        check.same("moved() after two", x.moved(), 2);
        check.same("contig(2)", x.contig(2), 4);
        check.same("moved() after four more", x.moved(), 6);
        check.same("contig(3)", x.contig(3), 8);
        check.same("moved() after four more again", x.moved(), 10);
        check.badArgument("contig(6)", () -> x.contig(6));
        check.same("contig(5) of free frames", x.contig(5), 32);
        check.notEnough("contig(5) again", () -> x.contig(5));
        check.same("moved() after calls that moved nothing", x.moved(), 10);
        x.release(4);
        x.munmap(0, 0, 1);
        x.load(0, 16);
        x.destroy(0);
        check.same("moved() after all is gone", x.moved(), 10);
    }

    private static void noneBeginsThere() {
        check.sentence("release: IllegalArgumentException if none begins there");
        MovedFrames x = Arrange.layout("RTprS..." + "........");
        check.same("contig(3)", x.contig(3), 8);
        check.same("contig(0)", x.contig(0), 2);
        for (int frame = -70; frame < 140; frame++) {
            if (frame != 2 && frame != 8) {
                int wrong = frame;
                check.badArgument("release(" + frame + ")", () -> x.release(wrong));
            }
        }
        int[] wrong = {Integer.MIN_VALUE, Integer.MIN_VALUE + 8, Integer.MAX_VALUE, Integer.MAX_VALUE - 63};
        for (int frame : wrong) {
            check.badArgument("release(" + frame + ")", () -> x.release(frame));
        }
        check.same("release(8)", x.release(8), 8);
        check.same("release(2)", x.release(2), 1);
        MovedFrames last = Arrange.free(1L << 63);
        check.same("contig(0) in the last frame", last.contig(0), 63);
        check.badArgument("release(64)", () -> last.release(64));
        check.badArgument("release(-1)", () -> last.release(-1));
        check.same("release(63)", last.release(63), 1);
    }

    private static void releasedOnce() {
        check.sentence("The run that begins at a frame is free");
        MovedFrames x = new MovedFrames();
        x.contig(2);
        check.same("release(0)", x.release(0), 4);
        check.badArgument("release(0) twice", () -> x.release(0));
        check.same("a shorter run in its place", x.contig(1), 0);
        check.same("one behind it", x.contig(1), 2);
        check.same("release of the second", x.release(2), 2);
        check.same("owner(1) of the first", x.owner(1), 5);
        check.same("release of the first", x.release(0), 2);
        check.same("a slab in its place", x.kmalloc(8), 0);
        check.badArgument("release(0) of a slab", () -> x.release(0));
    }

    private static void releaseCounts() {
        check.sentence("The run that begins at a frame is free: how many frames it had");
        for (int order = 0; order <= 5; order++) {
            MovedFrames x = new MovedFrames();
            int n = 1 << order;
            x.contig(order);
            x.contig(order);
            check.same("release of the second, order " + order, x.release(n), n);
            check.same("free()", x.free(), 64 - n);
            check.same("owner of the last frame of the first", x.owner(n - 1), 5);
            check.same("owner of the first frame of the second", x.owner(n), 0);
            check.same("release of the first, order " + order, x.release(0), n);
            check.same("blocks(6)", x.blocks(6), 1);
        }
    }

    /** The lower half: the root, a table, and n free frames that are no block together. */
    private static String lower(int n) {
        StringBuilder letters = new StringBuilder("RrTr" + "r".repeat(28));
        for (int i = 0; i < n; i++) {
            letters.setCharAt(1 + 2 * i, '.');
        }
        return letters.toString();
    }
}
