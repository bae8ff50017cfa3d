import java.util.ArrayList;
import java.util.List;
import java.util.Map;
import java.util.TreeMap;
import java.util.TreeSet;

/**
 * The document told once more, in another way: it keeps what there is in maps, and derives from them
 * who owns a frame. Slow, and with nothing in common with the class that it is compared with.
 */
final class Model {
    private static final class Space {
        int root;
        final TreeSet<Integer> region = new TreeSet<>();
        final TreeMap<Integer, Integer> tables = new TreeMap<>();
        final TreeMap<Integer, Integer> pages = new TreeMap<>();
    }

    private record Block(int first, int order) {
    }

    private final int[][] words = new int[64][16];
    private final TreeMap<Integer, Integer> slabs = new TreeMap<>();
    private final TreeSet<Integer> objects = new TreeSet<>();
    private final TreeMap<Integer, List<Integer>> ranges = new TreeMap<>();
    private final TreeMap<Integer, Space> spaces = new TreeMap<>();
    private final TreeMap<Integer, Integer> runs = new TreeMap<>();
    private int moved = 0;

    int kmalloc(int n) {
        require(n >= 1 && n <= 8);
        int size = n > 4 ? 8 : n > 2 ? 4 : 2;
        int address = freePlace(size);
        if (address < 0) {
            need(1);
            slabs.put(give(), size);
            address = freePlace(size);
        }
        objects.add(address);
        for (int i = 0; i < size; i++) {
            words[address / 16][address % 16 + i] = 0;
        }
        return address;
    }

    private int freePlace(int size) {
        for (Map.Entry<Integer, Integer> slab : slabs.entrySet()) {
            for (int place = 0; slab.getValue() == size && place < 16; place += size) {
                if (!objects.contains(16 * slab.getKey() + place)) {
                    return 16 * slab.getKey() + place;
                }
            }
        }
        return -1;
    }

    void kfree(int address) {
        require(objects.remove(address));
        int frame = address / 16;
        if (objects.subSet(16 * frame, 16 * frame + 16).isEmpty()) {
            slabs.remove(frame);
        }
    }

    int vmalloc(int n) {
        require(n >= 1 && n <= 8);
        need(n);
        for (int first = 0; first + n <= 64; first++) {
            if (noRangePages(first, n)) {
                List<Integer> frames = new ArrayList<>();
                ranges.put(first, frames);
                for (int i = 0; i < n; i++) {
                    frames.add(give());
                }
                return 16 * first;
            }
        }
        throw new IllegalStateException();
    }

    private boolean noRangePages(int first, int n) {
        for (int page = first; page < first + n; page++) {
            if (rangeFrame(page) >= 0) {
                return false;
            }
        }
        return true;
    }

    private int rangeFrame(int page) {
        Map.Entry<Integer, List<Integer>> range = ranges.floorEntry(page);
        if (range == null || page - range.getKey() >= range.getValue().size()) {
            return -1;
        }
        return range.getValue().get(page - range.getKey());
    }

    int vfree(int address) {
        require((address & 15) == 0 && ranges.containsKey(address >> 4));
        return ranges.remove(address >> 4).size();
    }

    int create() {
        for (int i = 0; i < 4; i++) {
            if (!spaces.containsKey(i)) {
                need(1);
                Space space = new Space();
                space.root = give();
                spaces.put(i, space);
                return i;
            }
        }
        throw new IllegalStateException();
    }

    int destroy(int number) {
        require(spaces.containsKey(number));
        Space space = spaces.remove(number);
        return 1 + space.tables.size() + space.pages.size();
    }

    void mmap(int number, int page, int n) {
        Space space = pagesOf(number, page, n);
        require(space.region.subSet(page, page + n).isEmpty());
        for (int i = 0; i < n; i++) {
            space.region.add(page + i);
        }
    }

    int munmap(int number, int page, int n) {
        Space space = pagesOf(number, page, n);
        int count = 0;
        for (int p = page; p < page + n; p++) {
            space.region.remove(p);
            if (space.pages.remove(p) != null) {
                count++;
                words[space.tables.get(p / 16)][p % 16] = 0;
            }
            int low = p / 16 * 16;
            if (space.tables.containsKey(p / 16) && space.pages.subMap(low, low + 16).isEmpty()) {
                space.tables.remove(p / 16);
                words[space.root][p / 16] = 0;
            }
        }
        return count;
    }

    private Space pagesOf(int number, int page, int n) {
        require(spaces.containsKey(number) && n >= 1 && n <= 64);
        require(page >= 0 && (long) page + n <= 256);
        return spaces.get(number);
    }

    int load(int number, int address) {
        int[] at = locate(number, address);
        return words[at[0]][at[1]];
    }

    void store(int number, int address, int v) {
        int[] at = locate(number, address);
        words[at[0]][at[1]] = v;
    }

    private int[] locate(int number, int address) {
        int frame;
        if (number == -1) {
            Integer object = objects.floor(address);
            boolean there = object != null && address - object < slabs.get(object / 16);
            frame = there ? object / 16 : -1;
        } else if (number == -2) {
            frame = rangeFrame(address >> 4);
        } else {
            require(spaces.containsKey(number));
            Space space = spaces.get(number);
            frame = space.region.contains(address >> 4) ? touch(space, address >> 4) : -1;
        }
        if (frame < 0) {
            throw new IndexOutOfBoundsException();
        }
        return new int[] {frame, address & 15};
    }

    private int touch(Space space, int page) {
        if (!space.pages.containsKey(page)) {
            boolean noTable = !space.tables.containsKey(page / 16);
            need(noTable ? 2 : 1);
            if (noTable) {
                space.tables.put(page / 16, give());
                words[space.root][page / 16] = 1 + space.tables.get(page / 16);
            }
            space.pages.put(page, give());
            words[space.tables.get(page / 16)][page % 16] = 1 + space.pages.get(page);
        }
        return space.pages.get(page);
    }

    int contig(int order) {
        require(order >= 0 && order <= 5);
        int n = 1 << order;
        for (int first = 0; first < 64; first += n) {
            if (able(first, n)) {
                for (int frame = first; frame < first + n; frame++) {
                    if (owner(frame) == 4) {
                        move(frame, first, n);
                    }
                }
                for (int frame = first; frame < first + n; frame++) {
                    words[frame] = new int[16];
                }
                runs.put(first, n);
                return first;
            }
        }
        throw new IllegalStateException();
    }

    private boolean able(int first, int n) {
        int pages = 0;
        int freeOutside = 0;
        for (int frame = 0; frame < 64; frame++) {
            int owner = owner(frame);
            if (frame < first || frame >= first + n) {
                freeOutside += owner == 0 ? 1 : 0;
            } else if (owner == 4) {
                pages++;
            } else if (owner != 0) {
                return false;
            }
        }
        return freeOutside >= pages;
    }

    private void move(int frame, int first, int n) {
        int to = 0;
        while (owner(to) != 0 || to >= first && to < first + n) {
            to++;
        }
        for (Space space : spaces.values()) {
            for (Map.Entry<Integer, Integer> page : space.pages.entrySet()) {
                if (page.getValue() == frame) {
                    page.setValue(to);
                    words[space.tables.get(page.getKey() / 16)][page.getKey() % 16] = 1 + to;
                    words[to] = words[frame].clone();
                    moved++;
                    return;
                }
            }
        }
    }

    int release(int frame) {
        require(runs.containsKey(frame));
        return runs.remove(frame);
    }

    int owner(int frame) {
        if (frame < 0 || frame > 63) {
            return -1;
        }
        for (Space space : spaces.values()) {
            if (space.root == frame || space.tables.containsValue(frame)) {
                return 1;
            }
            if (space.pages.containsValue(frame)) {
                return 4;
            }
        }
        if (slabs.containsKey(frame)) {
            return 2;
        }
        for (List<Integer> range : ranges.values()) {
            if (range.contains(frame)) {
                return 3;
            }
        }
        Map.Entry<Integer, Integer> run = runs.floorEntry(frame);
        return run != null && frame < run.getKey() + run.getValue() ? 5 : 0;
    }

    int frame(int number, int page) {
        if (number == -2) {
            return rangeFrame(page);
        }
        Space space = spaces.get(number);
        return space == null ? -1 : space.pages.getOrDefault(page, -1);
    }

    int word(int frame, int w) {
        return frame < 0 || frame > 63 || w < 0 || w > 15 ? 0 : words[frame][w];
    }

    int blocks(int order) {
        int count = 0;
        for (Block block : freeBlocks()) {
            count += block.order() == order ? 1 : 0;
        }
        return count;
    }

    int free() {
        int count = 0;
        for (int frame = 0; frame < 64; frame++) {
            count += owner(frame) == 0 ? 1 : 0;
        }
        return count;
    }

    int moved() {
        return moved;
    }

    private int give() {
        Block best = null;
        for (Block block : freeBlocks()) {
            if (best == null || block.order() < best.order()) {
                best = block;
            }
        }
        words[best.first()] = new int[16];
        return best.first();
    }

    /** From the lowest to the highest: a block that is not all free is cut in halves. */
    private List<Block> freeBlocks() {
        boolean[] free = new boolean[64];
        for (int frame = 0; frame < 64; frame++) {
            free[frame] = owner(frame) == 0;
        }
        List<Block> found = new ArrayList<>();
        collect(free, 0, 6, found);
        return found;
    }

    private static void collect(boolean[] free, int first, int order, List<Block> found) {
        boolean all = true;
        for (int frame = first; frame < first + (1 << order); frame++) {
            all &= free[frame];
        }
        if (all) {
            found.add(new Block(first, order));
        } else if (order > 0) {
            collect(free, first, order - 1, found);
            collect(free, first + (1 << order - 1), order - 1, found);
        }
    }

    private static void require(boolean asTold) {
        if (!asTold) {
            throw new IllegalArgumentException();
        }
    }

    private void need(int frames) {
        if (free() < frames) {
            throw new IllegalStateException();
        }
    }
}
