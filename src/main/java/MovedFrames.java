/**
 * The memory of a kernel: frames from a buddy allocator, small objects in slabs, ranges of
 * scattered frames, address spaces whose pages come when they are first touched, tables that lie
 * in frames themselves, and runs of frames that are made free by moving what can be moved.
 *
 * <p>The public methods look at the arguments and throw; the classes inside hold the state. A
 * "place" is the number of a word among all words: 16 * its frame + its number in the frame.
 */
public final class MovedFrames {
    private static final int FRAMES = 64;
    private static final int WORDS = 16;
    private static final int TOP_ORDER = 6;
    private static final int TOP_RUN_ORDER = 5;

    private static final int FREE = 0;
    private static final int TABLE = 1;
    private static final int SLAB = 2;
    private static final int RANGE = 3;
    private static final int PAGE = 4;
    private static final int RUN = 5;

    private static final int IN_OBJECTS = -1;
    private static final int IN_RANGES = -2;

    private static final int SPACES = 4;
    private static final int PAGES = 256;
    private static final int RANGE_PAGES = 64;
    private static final int LONGEST_OBJECT = 8;
    private static final int LONGEST_RANGE = 8;
    private static final int LONGEST_REGION = 64;

    private static final int NONE = -1;

    private final Frames frames;
    private final Slabs slabs;
    private final Ranges ranges;
    private final Spaces spaces;
    private final Runs runs;

    public MovedFrames() {
        frames = new Frames();
        slabs = new Slabs(frames);
        ranges = new Ranges(frames);
        spaces = new Spaces(frames);
        runs = new Runs(frames, spaces);
    }

    public int kmalloc(int n) throws IllegalArgumentException, IllegalStateException {
        if (n < 1 || n > LONGEST_OBJECT) {
            throw new IllegalArgumentException("no such number of words");
        }
        return orNotEnough(slabs.add(sizeFor(n)));
    }

    public void kfree(int address) throws IllegalArgumentException {
        orNotAsTold(slabs.remove(address));
    }

    public int vmalloc(int n) throws IllegalArgumentException, IllegalStateException {
        if (n < 1 || n > LONGEST_RANGE) {
            throw new IllegalArgumentException("no such number of pages");
        }
        return orNotEnough(ranges.add(n));
    }

    public int vfree(int address) throws IllegalArgumentException {
        return orNotAsTold(ranges.remove(address));
    }

    public int create() throws IllegalStateException {
        return orNotEnough(spaces.add());
    }

    public int destroy(int space) throws IllegalArgumentException {
        return orNotAsTold(spaces.remove(space));
    }

    public void mmap(int space, int page, int n) throws IllegalArgumentException {
        checkPages(space, page, n);
        if (spaces.anyInRegion(space, page, n)) {
            throw new IllegalArgumentException("a page is in a region already");
        }
        spaces.putInRegion(space, page, n);
    }

    public int munmap(int space, int page, int n) throws IllegalArgumentException {
        checkPages(space, page, n);
        return spaces.takeFromRegion(space, page, n);
    }

    public int load(int space, int address)
            throws IllegalArgumentException, IndexOutOfBoundsException, IllegalStateException {
        return frames.read(placeOf(space, address));
    }

    public void store(int space, int address, int v)
            throws IllegalArgumentException, IndexOutOfBoundsException, IllegalStateException {
        frames.write(placeOf(space, address), v);
    }

    public int contig(int order) throws IllegalArgumentException, IllegalStateException {
        if (order < 0 || order > TOP_RUN_ORDER) {
            throw new IllegalArgumentException("no such order of a run");
        }
        return orNotEnough(runs.add(order));
    }

    public int release(int frame) throws IllegalArgumentException {
        return orNotAsTold(runs.remove(frame));
    }

    public int owner(int frame) {
        return frames.ownerOf(frame);
    }

    public int frame(int space, int page) {
        return space == IN_RANGES ? ranges.frameOf(page) : spaces.frameOf(space, page);
    }

    public int word(int frame, int w) {
        return isFrame(frame) && w >= 0 && w < WORDS ? frames.read(frame * WORDS + w) : 0;
    }

    public int blocks(int order) {
        return order < 0 || order > TOP_ORDER ? 0 : frames.countFreeBlocks(order);
    }

    public int free() {
        return frames.countFree();
    }

    public int moved() {
        return runs.movedSoFar();
    }

    private static int orNotAsTold(int answer) {
        if (answer == NONE) {
            throw new IllegalArgumentException("nothing with that number is there");
        }
        return answer;
    }

    private static int orNotEnough(int answer) {
        if (answer == NONE) {
            throw new IllegalStateException("not enough is free");
        }
        return answer;
    }

    private static int sizeFor(int n) {
        if (n <= 2) {
            return 2;
        }
        return n <= 4 ? 4 : 8;
    }

    private void checkSpace(int space) {
        if (!spaces.isThere(space)) {
            throw new IllegalArgumentException("the space is not there");
        }
    }

    private void checkPages(int space, int page, int n) {
        checkSpace(space);
        if (n < 1 || n > LONGEST_REGION) {
            throw new IllegalArgumentException("no such number of pages");
        }
        // The last page is not computed from the first: that sum could wrap around.
        if (page < 0 || page > PAGES - n) {
            throw new IllegalArgumentException("one of them is no page");
        }
    }

    private int placeOf(int space, int address) {
        if (space == IN_OBJECTS) {
            return orFault(slabs.placeAt(address));
        }
        if (space == IN_RANGES) {
            return orFault(ranges.placeAt(address));
        }
        checkSpace(space);
        return placeInSpace(space, address);
    }

    private int placeInSpace(int space, int address) {
        // Rounded down, so that the addresses just below 0 do not fall into page 0.
        int page = Math.floorDiv(address, WORDS);
        if (!spaces.isInRegion(space, page)) {
            throw new IndexOutOfBoundsException("the page is in no region");
        }
        return orNotEnough(spaces.touch(space, page)) * WORDS + Math.floorMod(address, WORDS);
    }

    private static int orFault(int place) {
        if (place == NONE) {
            throw new IndexOutOfBoundsException("nothing at that address");
        }
        return place;
    }

    private static boolean isFrame(int frame) {
        return frame >= 0 && frame < FRAMES;
    }

    /** Who owns each frame, the words of all frames, and the free blocks that follow from that. */
    private static final class Frames {
        private final int[] owners = new int[FRAMES];
        private final int[] words = new int[FRAMES * WORDS];
        /** Bit i tells whether frame i is free, so that a block is looked at as a whole. */
        private long freeBits = -1L;

        int ownerOf(int frame) {
            return isFrame(frame) ? owners[frame] : NONE;
        }

        int read(int place) {
            return place >= 0 && place < words.length ? words[place] : 0;
        }

        void write(int place, int v) {
            if (place >= 0 && place < words.length) {
                words[place] = v;
            }
        }

        void clear(int place, int n) {
            for (int i = 0; i < n; i++) {
                write(place + i, 0);
            }
        }

        void copyWords(int from, int to) {
            for (int w = 0; w < WORDS; w++) {
                write(to * WORDS + w, read(from * WORDS + w));
            }
        }

        /** Gives one frame by the rule of the free blocks; NONE if no frame is free. */
        int giveOne(int owner) {
            for (int order = 0; order <= TOP_ORDER; order++) {
                for (int block = 0; block < FRAMES >> order; block++) {
                    int first = block << order;
                    if (isFreeBlock(first, order)) {
                        giveTo(first, owner);
                        return first;
                    }
                }
            }
            return NONE;
        }

        void giveTo(int frame, int owner) {
            if (isFrame(frame)) {
                owners[frame] = owner;
                freeBits &= ~(1L << frame);
                for (int w = 0; w < WORDS; w++) {
                    words[frame * WORDS + w] = 0;
                }
            }
        }

        void makeFree(int frame) {
            if (isFrame(frame)) {
                owners[frame] = FREE;
                freeBits |= 1L << frame;
            }
        }

        int countFree() {
            return Long.bitCount(freeBits);
        }

        int countOwned(int owner, int first, int n) {
            int count = 0;
            for (int frame = first; frame < first + n; frame++) {
                if (ownerOf(frame) == owner) {
                    count++;
                }
            }
            return count;
        }

        int countFreeBlocks(int order) {
            int count = 0;
            for (int block = 0; block < FRAMES >> order; block++) {
                if (isFreeBlock(block << order, order)) {
                    count++;
                }
            }
            return count;
        }

        private boolean isFreeBlock(int first, int order) {
            if (!isAllFree(first, order)) {
                return false;
            }
            int greater = order + 1;
            return order == TOP_ORDER || !isAllFree(first >> greater << greater, greater);
        }

        private boolean isAllFree(int first, int order) {
            // Ones are shifted in from the top: 1L << 64 would be 1 for the block of all frames.
            long block = -1L >>> (FRAMES - (1 << order)) << first;
            return (freeBits & block) == block;
        }
    }

    /** The small objects. */
    private static final class Slabs {
        private final Frames frames;
        /** By frame: the words of an object of the slab there, 0 if there is no slab. */
        private final int[] sizes = new int[FRAMES];
        /** By frame: bit i tells whether the slab's object i is there. */
        private final int[] taken = new int[FRAMES];

        Slabs(Frames frames) {
            this.frames = frames;
        }

        /** Adds an object: its address; NONE if no frame is free for a new slab. */
        int add(int size) {
            int frame = lowestSlabWithRoom(size);
            if (frame == NONE) {
                frame = newSlab(size);
            }
            return frame == NONE ? NONE : takeLowest(frame, size);
        }

        /** Takes the object that begins at an address away: its size; NONE if none begins there. */
        int remove(int address) {
            if (placeAt(address) == NONE) {
                return NONE;
            }
            int frame = address / WORDS;
            int size = sizes[frame];
            if (size == 0 || address % size != 0) {
                return NONE;
            }
            taken[frame] &= ~bitOf(address);
            if (taken[frame] == 0) {
                sizes[frame] = 0;
                frames.makeFree(frame);
            }
            return size;
        }

        /** The place of a word of an object; NONE if no object has it. */
        int placeAt(int address) {
            if (address < 0 || address >= FRAMES * WORDS || sizes[address / WORDS] == 0) {
                return NONE;
            }
            return (taken[address / WORDS] & bitOf(address)) != 0 ? address : NONE;
        }

        private int bitOf(int place) {
            int size = sizes[place / WORDS];
            return size == 0 ? 0 : 1 << place % WORDS / size;
        }

        private int lowestSlabWithRoom(int size) {
            for (int frame = 0; frame < FRAMES; frame++) {
                if (sizes[frame] == size && lowestRoom(frame) != NONE) {
                    return frame;
                }
            }
            return NONE;
        }

        /** The first word that no object has is the first word of the lowest free place. */
        private int lowestRoom(int frame) {
            for (int w = 0; w < WORDS; w++) {
                if (placeAt(frame * WORDS + w) == NONE) {
                    return frame * WORDS + w;
                }
            }
            return NONE;
        }

        private int newSlab(int size) {
            int frame = frames.giveOne(SLAB);
            if (frame != NONE) {
                sizes[frame] = size;
            }
            return frame;
        }

        private int takeLowest(int frame, int size) {
            int place = lowestRoom(frame);
            if (place != NONE) {
                taken[frame] |= bitOf(place);
                frames.clear(place, size);
            }
            return place;
        }
    }

    /** The ranges of scattered frames. */
    private static final class Ranges {
        private final Frames frames;
        /** By range page: 1 + its frame, 0 if the page is not taken. */
        private final int[] entries = new int[RANGE_PAGES];
        /** By range page: how many pages the range has that begins there, 0 if none does. */
        private final int[] lengths = new int[RANGE_PAGES];

        Ranges(Frames frames) {
            this.frames = frames;
        }

        /** Adds a range: its address; NONE if there are too few pages in a row, or frames. */
        int add(int n) {
            int first = lowestRoom(n);
            if (first == NONE || frames.countFree() < n) {
                return NONE;
            }
            for (int page = first; page < first + n; page++) {
                entries[page] = 1 + frames.giveOne(RANGE);
            }
            lengths[first] = n;
            return first * WORDS;
        }

        /** Takes the range that begins at an address away: its pages; NONE if none begins there. */
        int remove(int address) {
            if (address < 0 || address >= RANGE_PAGES * WORDS || address % WORDS != 0) {
                return NONE;
            }
            int first = address / WORDS;
            int n = lengths[first];
            if (n == 0) {
                return NONE;
            }
            for (int page = first; page < first + n; page++) {
                frames.makeFree(entries[page] - 1);
                entries[page] = 0;
            }
            lengths[first] = 0;
            return n;
        }

        int frameOf(int page) {
            return page >= 0 && page < RANGE_PAGES ? entries[page] - 1 : NONE;
        }

        /** The place of a word of a range; NONE if no range has it. */
        int placeAt(int address) {
            int frame = frameOf(Math.floorDiv(address, WORDS));
            return frame == NONE ? NONE : frame * WORDS + Math.floorMod(address, WORDS);
        }

        private int lowestRoom(int n) {
            int inRow = 0;
            for (int page = 0; page < RANGE_PAGES; page++) {
                inRow = entries[page] == 0 ? inRow + 1 : 0;
                if (inRow == n) {
                    return page - n + 1;
                }
            }
            return NONE;
        }
    }

    /** The spaces, their regions and their tables. */
    private static final class Spaces {
        private final Frames frames;
        /** By space: 1 + the frame of its root, 0 if the space is not there. */
        private final int[] roots = new int[SPACES];
        /** By space and page: whether the page is in a region. */
        private final boolean[] inRegion = new boolean[SPACES * PAGES];
        /** By frame of a page: the place of the entry that has it, for a move to find it. */
        private final int[] entryOf = new int[FRAMES];

        Spaces(Frames frames) {
            this.frames = frames;
        }

        boolean isThere(int space) {
            return space >= 0 && space < SPACES && roots[space] != 0;
        }

        /** Adds the lowest space that is not there; NONE if all are, or no frame is free. */
        int add() {
            for (int space = 0; space < SPACES; space++) {
                if (roots[space] == 0) {
                    roots[space] = 1 + frames.giveOne(TABLE);
                    return roots[space] == 0 ? NONE : space;
                }
            }
            return NONE;
        }

        /** Takes a space away: how many frames became free; NONE if it is not there. */
        int remove(int space) {
            if (!isThere(space)) {
                return NONE;
            }
            int count = removeTree(roots[space] - 1);
            roots[space] = 0;
            for (int page = 0; page < PAGES; page++) {
                inRegion[space * PAGES + page] = false;
            }
            return count;
        }

        boolean isInRegion(int space, int page) {
            return isThere(space) && isPage(page) && inRegion[space * PAGES + page];
        }

        boolean anyInRegion(int space, int first, int n) {
            for (int page = first; page < first + n; page++) {
                if (isInRegion(space, page)) {
                    return true;
                }
            }
            return false;
        }

        void putInRegion(int space, int first, int n) {
            for (int page = first; page < first + n; page++) {
                setRegion(space, page, true);
            }
        }

        /** Takes pages from their regions: how many of them had a frame. */
        int takeFromRegion(int space, int first, int n) {
            int count = 0;
            for (int page = first; page < first + n; page++) {
                setRegion(space, page, false);
                if (frameOf(space, page) != NONE) {
                    removePage(space, page);
                    count++;
                }
            }
            return count;
        }

        int frameOf(int space, int page) {
            int table = tableOf(space, page);
            return table == NONE ? NONE : frames.read(table * WORDS + page % WORDS) - 1;
        }

        /** The frame of a page, which gets one if it has none; NONE if there are too few. */
        int touch(int space, int page) {
            int frame = frameOf(space, page);
            if (frame != NONE || !isInRegion(space, page)) {
                return frame;
            }
            int table = tableOf(space, page);
            // Both frames are counted before one is given: a call that throws changes nothing.
            if (frames.countFree() < (table == NONE ? 2 : 1)) {
                return NONE;
            }
            if (table == NONE) {
                table = frames.giveOne(TABLE);
                frames.write(rootEntry(space, page), 1 + table);
            }
            frame = frames.giveOne(PAGE);
            link(table * WORDS + page % WORDS, frame);
            return frame;
        }

        void movePage(int from, int to) {
            if (!isFrame(from) || !isFrame(to)) {
                return;
            }
            frames.giveTo(to, PAGE);
            frames.copyWords(from, to);
            frames.makeFree(from);
            link(entryOf[from], to);
        }

        private static boolean isPage(int page) {
            return page >= 0 && page < PAGES;
        }

        private void setRegion(int space, int page, boolean value) {
            if (isThere(space) && isPage(page)) {
                inRegion[space * PAGES + page] = value;
            }
        }

        private int rootEntry(int space, int page) {
            return (roots[space] - 1) * WORDS + page / WORDS;
        }

        private int tableOf(int space, int page) {
            if (!isThere(space) || !isPage(page)) {
                return NONE;
            }
            return frames.read(rootEntry(space, page)) - 1;
        }

        private void link(int entry, int frame) {
            if (isFrame(frame)) {
                frames.write(entry, 1 + frame);
                entryOf[frame] = entry;
            }
        }

        private void removePage(int space, int page) {
            int table = tableOf(space, page);
            frames.makeFree(frameOf(space, page));
            frames.write(table * WORDS + page % WORDS, 0);
            if (isEmptyTable(table)) {
                frames.makeFree(table);
                frames.write(rootEntry(space, page), 0);
            }
        }

        private boolean isEmptyTable(int table) {
            for (int w = 0; w < WORDS; w++) {
                if (frames.read(table * WORDS + w) != 0) {
                    return false;
                }
            }
            return true;
        }

        private int removeTree(int root) {
            int count = 1;
            for (int w = 0; w < WORDS; w++) {
                int entry = frames.read(root * WORDS + w);
                if (entry != 0) {
                    count += removeTable(entry - 1);
                }
            }
            frames.makeFree(root);
            return count;
        }

        private int removeTable(int table) {
            int count = 1;
            for (int w = 0; w < WORDS; w++) {
                int entry = frames.read(table * WORDS + w);
                if (entry != 0) {
                    frames.makeFree(entry - 1);
                    count++;
                }
            }
            frames.makeFree(table);
            return count;
        }
    }

    /** The runs, and the moves that make room for them. */
    private static final class Runs {
        private final Frames frames;
        private final Spaces spaces;
        /** By frame: how many frames the run has that begins there, 0 if none does. */
        private final int[] lengths = new int[FRAMES];
        private int moves;

        Runs(Frames frames, Spaces spaces) {
            this.frames = frames;
            this.spaces = spaces;
        }

        /** Adds a run: its first frame; NONE if no block is able. */
        int add(int order) {
            int n = 1 << order;
            int first = lowestAble(order);
            if (first == NONE) {
                return NONE;
            }
            movePagesOut(first, n);
            for (int frame = first; frame < first + n; frame++) {
                frames.giveTo(frame, RUN);
            }
            lengths[first] = n;
            return first;
        }

        /** Takes the run that begins at a frame away: its frames; NONE if none begins there. */
        int remove(int first) {
            if (!isFrame(first) || lengths[first] == 0) {
                return NONE;
            }
            int n = lengths[first];
            for (int frame = first; frame < first + n; frame++) {
                frames.makeFree(frame);
            }
            lengths[first] = 0;
            return n;
        }

        int movedSoFar() {
            return moves;
        }

        private int lowestAble(int order) {
            for (int block = 0; block < FRAMES >> order; block++) {
                if (isAble(block << order, 1 << order)) {
                    return block << order;
                }
            }
            return NONE;
        }

        private boolean isAble(int first, int n) {
            int freeInside = frames.countOwned(FREE, first, n);
            int pages = frames.countOwned(PAGE, first, n);
            return freeInside + pages == n && frames.countFree() - freeInside >= pages;
        }

        private void movePagesOut(int first, int n) {
            for (int frame = first; frame < first + n; frame++) {
                if (frames.ownerOf(frame) == PAGE) {
                    spaces.movePage(frame, lowestFreeOutside(first, n));
                    moves++;
                }
            }
        }

        private int lowestFreeOutside(int first, int n) {
            for (int frame = 0; frame < FRAMES; frame++) {
                boolean inside = frame >= first && frame < first + n;
                if (!inside && frames.ownerOf(frame) == FREE) {
                    return frame;
                }
            }
            return NONE;
        }
    }
}
