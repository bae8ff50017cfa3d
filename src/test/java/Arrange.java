import java.util.ArrayList;
import java.util.List;

/**
 * Makes objects whose frames are owned as a test wants it, by calls of the face alone. The document
 * promises 512 calls of an object; what is made here has used at most 260 of them.
 */
final class Arrange {
    private Arrange() {
    }

    /** Range page f has frame f, for all frames: a new object gives them by rising numbers. */
    static MovedFrames allTaken() {
        MovedFrames x = new MovedFrames();
        for (int page = 0; page < 64; page++) {
            x.vmalloc(1);
        }
        return x;
    }

    /** The frames of the bits are free; each other frame f is that of range page f. */
    static MovedFrames free(long bits) {
        MovedFrames x = allTaken();
        for (int frame = 0; frame < 64; frame++) {
            if ((bits >>> frame & 1) != 0) {
                x.vfree(16 * frame);
            }
        }
        return x;
    }

    /**
     * One letter a frame, from frame 0 on: '.' free, 'r' a range of one page, 'S' a full slab of two
     * objects, 'X' a run of one frame, 'R' the root of space 0, 'T' a table of it, 'p' a page of it.
     * What is left out at the end is 'r'. The pages are spread evenly over the tables, by rising
     * numbers, and page q in frame f has 1000 + f as its first word and 2000 + f as its last.
     */
    static MovedFrames layout(String letters) {
        String all = letters + "r".repeat(64 - letters.length());
        MovedFrames x = allTaken();
        for (int frame = 0; frame < 64; frame++) {
            if (all.charAt(frame) == 'S') {
                x.vfree(16 * frame);
                x.kmalloc(8);
                x.kmalloc(8);
            } else if (all.charAt(frame) == 'X') {
                x.vfree(16 * frame);
                x.contig(0);
            }
        }
        addSpace(x, all);
        for (int frame = 0; frame < 64; frame++) {
            if (all.charAt(frame) == '.') {
                x.vfree(16 * frame);
            }
        }
        return x;
    }

    /** The page of space 0 that a layout puts into a frame, -1 if it puts none there. */
    static int pageIn(String letters, int frame) {
        if (letters.charAt(frame) != 'p') {
            return -1;
        }
        int pages = framesOf(letters, 'p').size();
        int perTable = perTable(letters, pages);
        int index = framesOf(letters, 'p').indexOf(frame);
        return 16 * (index / perTable) + index % perTable;
    }

    /** The owners of all frames, one digit each. */
    static String owners(MovedFrames x) {
        StringBuilder text = new StringBuilder();
        for (int frame = 0; frame < 64; frame++) {
            text.append(x.owner(frame));
        }
        return text.toString();
    }

    static String ownersOf(String letters) {
        String all = letters + "r".repeat(64 - letters.length());
        return all.replace('.', '0').replace('R', '1').replace('T', '1').replace('S', '2').replace('r', '3')
            .replace('p', '4').replace('X', '5');
    }

    private static void addSpace(MovedFrames x, String all) {
        List<Integer> tables = framesOf(all, 'T');
        List<Integer> pages = framesOf(all, 'p');
        if (all.indexOf('R') < 0) {
            return;
        }
        x.vfree(16 * all.indexOf('R'));
        x.create();
        int perTable = perTable(all, pages.size());
        for (int i = 0; i < pages.size(); i++) {
            int frame = pages.get(i);
            int page = pageIn(all, frame);
            // The table is given first, so its frame must be the lower one of the two free ones.
            if (i % perTable == 0) {
                x.vfree(16 * tables.get(i / perTable));
                x.mmap(0, page, 16);
            }
            x.vfree(16 * frame);
            x.store(0, 16 * page, 1000 + frame);
            x.store(0, 16 * page + 15, 2000 + frame);
        }
    }

    private static int perTable(String letters, int pages) {
        int tables = Math.max(1, framesOf(letters, 'T').size());
        return Math.max(1, (pages + tables - 1) / tables);
    }

    private static List<Integer> framesOf(String letters, char kind) {
        List<Integer> found = new ArrayList<>();
        for (int frame = 0; frame < letters.length(); frame++) {
            if (letters.charAt(frame) == kind) {
                found.add(frame);
            }
        }
        return found;
    }
}
