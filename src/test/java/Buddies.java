/** The document's words on free blocks, taken literally, for free frames that are told as bits. */
final class Buddies {
    private Buddies() {
    }

    static int count(long free, int order) {
        int count = 0;
        for (int first = 0; first < 64; first += 1 << order) {
            if (isFreeBlock(free, first, order)) {
                count++;
            }
        }
        return count;
    }

    /** The frame that is given next; -1 if none is free. */
    static int next(long free) {
        for (int order = 0; order <= 6; order++) {
            for (int first = 0; first < 64; first += 1 << order) {
                if (isFreeBlock(free, first, order)) {
                    return first;
                }
            }
        }
        return -1;
    }

    private static boolean isFreeBlock(long free, int first, int order) {
        for (int greater = order + 1; greater <= 6; greater++) {
            if (isFree(free, first / (1 << greater) * (1 << greater), greater)) {
                return false;
            }
        }
        return isFree(free, first, order);
    }

    private static boolean isFree(long free, int first, int order) {
        for (int frame = first; frame < first + (1 << order); frame++) {
            if ((free >>> frame & 1) == 0) {
                return false;
            }
        }
        return true;
    }
}
