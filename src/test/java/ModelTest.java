import java.util.ArrayList;
import java.util.List;
import java.util.Random;

/**
 * Long runs of calls, the same on the class and on the model: all promises together. No object gets more
 * than the 512 calls of the document, so all that can be asked is asked of objects made once more.
 */
public final class ModelTest {
    private static final int RUNS = 1500;
    private static final int CALLS = 512;
    private static final long BAD_ARGUMENT = 1L << 40;
    private static final long FAULT = 2L << 40;
    private static final long NOT_ENOUGH = 3L << 40;
    private static final long OTHER = 4L << 40;
    private static final String[] NAMES = {"kmalloc", "kfree", "vmalloc", "vfree", "create", "destroy", "mmap",
        "munmap", "load", "store", "contig", "release", "owner", "frame", "word", "blocks", "free", "moved"};
    private static final int OWNER = 12;
    private static final int FRAME = 13;
    private static final int WORD = 14;
    private static final int BLOCKS = 15;
    private static final int FREE = 16;
    private static final int MOVED = 17;
    /** How often each call comes: evenly, mostly pages and runs, mostly ranges, mostly slabs. */
    private static final int[][] WEIGHTS = {
        {10, 6, 5, 4, 4, 1, 8, 4, 15, 20, 8, 6, 10, 10, 10, 5, 3, 2},
        {3, 3, 1, 1, 4, 1, 10, 5, 20, 40, 25, 22, 5, 20, 10, 5, 3, 5},
        {4, 2, 30, 25, 2, 1, 4, 2, 10, 10, 3, 2, 5, 20, 5, 5, 5, 1},
        {45, 35, 2, 2, 1, 0, 2, 1, 10, 15, 3, 2, 5, 2, 20, 5, 5, 1}};
    private static final int[] ODD = {-1, -2, -3, -16, 0, 1, 4, 9, 16, 64, 65, 255, 256, 1024, 4095, 4096,
        Integer.MIN_VALUE, Integer.MAX_VALUE};
    private static final List<int[]> ASKED = allThatCanBeAsked();

    private static final Check check = new Check();

    public static void main(String[] args) {
        long[] seen = new long[5];
        int moved = 0;
        for (int run = 0; run < RUNS; run++) {
            moved += oneRun(run, seen);
        }
        // Runs that never reach a corner would pass for nothing.
        for (int kind = 0; kind < 4; kind++) {
            check.same("outcomes of kind " + kind + " were seen", seen[kind] > 1000 ? 1 : 0, 1);
        }
        check.same("pages were moved", moved > 1000 ? 1 : 0, 1);
        check.end();
    }

    private static int oneRun(int run, long[] seen) {
        Random random = new Random(run);
        MovedFrames real = new MovedFrames();
        Model model = new Model();
        List<int[]> calls = new ArrayList<>();
        int stop = 20 + random.nextInt(380);
        for (int i = 0; i < CALLS; i++) {
            int kind = pick(random, WEIGHTS[run % WEIGHTS.length]);
            int[] call = arguments(random, kind, model);
            calls.add(call);
            long due = outcome(() -> onModel(model, call));
            long got = outcome(() -> onReal(real, call));
            seen[(int) (due >>> 40 & 7) % 5]++;
            String told = "run " + run + ", call " + i + ": " + told(call);
            if (got != due) {
                check.same(told, got, due);
                return model.moved();
            }
            if (i == stop && !sameState(told, calls, model)) {
                return model.moved();
            }
        }
        return model.moved();
    }

    private static String told(int[] call) {
        return NAMES[call[0]] + "(" + call[1] + ", " + call[2] + ", " + call[3] + ")";
    }

    private static boolean sameState(String told, List<int[]> calls, Model model) {
        int atOnce = CALLS - calls.size();
        for (int from = 0; from < ASKED.size(); from += atOnce) {
            MovedFrames real = new MovedFrames();
            for (int[] call : calls) {
                outcome(() -> onReal(real, call));
            }
            for (int[] ask : ASKED.subList(from, Math.min(ASKED.size(), from + atOnce))) {
                if (onReal(real, ask) != onModel(model, ask)) {
                    check.same(told(ask) + " after " + told, onReal(real, ask), onModel(model, ask));
                    return false;
                }
            }
        }
        return true;
    }

    private static List<int[]> allThatCanBeAsked() {
        List<int[]> asked = new ArrayList<>();
        asked.add(new int[] {FREE, 0, 0, 0});
        asked.add(new int[] {MOVED, 0, 0, 0});
        for (int order = -1; order <= 7; order++) {
            asked.add(new int[] {BLOCKS, order, 0, 0});
        }
        for (int frame = -1; frame <= 64; frame++) {
            asked.add(new int[] {OWNER, frame, 0, 0});
            for (int w = -1; w <= 16; w++) {
                asked.add(new int[] {WORD, frame, w, 0});
            }
        }
        for (int space = -3; space <= 4; space++) {
            for (int page = -1; page <= 256; page++) {
                asked.add(new int[] {FRAME, space, page, 0});
            }
        }
        return asked;
    }

    private static int pick(Random random, int[] weights) {
        int sum = 0;
        for (int weight : weights) {
            sum += weight;
        }
        int left = random.nextInt(sum);
        int kind = 0;
        while (left >= weights[kind]) {
            left -= weights[kind++];
        }
        return kind;
    }

    private static int[] arguments(Random random, int kind, Model model) {
        int[] a = {kind, 0, 0, random.nextInt()};
        switch (kind) {
            case 0, 2 -> a[1] = 1 + random.nextInt(8);
            case 1 -> a[1] = 2 * random.nextInt(512 / (1 + random.nextInt(16)) + 1);
            case 3 -> a[1] = 16 * random.nextInt(64);
            case 5 -> a[1] = random.nextInt(4);
            case 6, 7 -> {
                a[1] = random.nextInt(4);
                a[2] = random.nextInt(random.nextBoolean() ? 40 : 256);
                a[3] = 1 + random.nextInt(random.nextBoolean() ? 8 : 64);
            }
            case 8, 9 -> {
                a[1] = random.nextInt(6) - 2;
                a[2] = random.nextInt(a[1] < 0 || random.nextBoolean() ? 640 : 4096);
            }
            case 10 -> a[1] = random.nextInt(random.nextInt(6) + 1);
            case 11 -> a[1] = aRun(random, model);
            case OWNER -> a[1] = random.nextInt(64);
            case FRAME -> {
                a[1] = random.nextInt(6) - 2;
                a[2] = random.nextInt(40);
            }
            case WORD -> {
                a[1] = random.nextInt(random.nextBoolean() ? 16 : 64);
                a[2] = random.nextInt(16);
            }
            case BLOCKS -> a[1] = random.nextInt(7);
            default -> { }
        }
        if (random.nextInt(25) == 0) {
            a[1 + random.nextInt(3)] = ODD[random.nextInt(ODD.length)];
        }
        return a;
    }

    private static int aRun(Random random, Model model) {
        int frame = random.nextInt(64);
        while (frame > 0 && model.owner(frame) != 5) {
            frame--;
        }
        while (frame > 0 && random.nextInt(4) > 0 && model.owner(frame - 1) == 5) {
            frame--;
        }
        return frame;
    }

    private static long outcome(java.util.function.LongSupplier call) {
        try {
            return call.getAsLong() & 0xffffffffL;
        } catch (RuntimeException e) {
            Class<?> thrown = e.getClass();
            return thrown == IllegalArgumentException.class ? BAD_ARGUMENT
                : thrown == IndexOutOfBoundsException.class ? FAULT
                : thrown == IllegalStateException.class ? NOT_ENOUGH : OTHER;
        }
    }

    private static long onReal(MovedFrames x, int[] a) {
        switch (a[0]) {
            case 0: return x.kmalloc(a[1]);
            case 1: x.kfree(a[1]); return 0;
            case 2: return x.vmalloc(a[1]);
            case 3: return x.vfree(a[1]);
            case 4: return x.create();
            case 5: return x.destroy(a[1]);
            case 6: x.mmap(a[1], a[2], a[3]); return 0;
            case 7: return x.munmap(a[1], a[2], a[3]);
            case 8: return x.load(a[1], a[2]);
            case 9: x.store(a[1], a[2], a[3]); return 0;
            case 10: return x.contig(a[1]);
            case 11: return x.release(a[1]);
            case OWNER: return x.owner(a[1]);
            case FRAME: return x.frame(a[1], a[2]);
            case WORD: return x.word(a[1], a[2]);
            case BLOCKS: return x.blocks(a[1]);
            case FREE: return x.free();
            default: return x.moved();
        }
    }

    private static long onModel(Model x, int[] a) {
        switch (a[0]) {
            case 0: return x.kmalloc(a[1]);
            case 1: x.kfree(a[1]); return 0;
            case 2: return x.vmalloc(a[1]);
            case 3: return x.vfree(a[1]);
            case 4: return x.create();
            case 5: return x.destroy(a[1]);
            case 6: x.mmap(a[1], a[2], a[3]); return 0;
            case 7: return x.munmap(a[1], a[2], a[3]);
            case 8: return x.load(a[1], a[2]);
            case 9: x.store(a[1], a[2], a[3]); return 0;
            case 10: return x.contig(a[1]);
            case 11: return x.release(a[1]);
            case OWNER: return x.owner(a[1]);
            case FRAME: return x.frame(a[1], a[2]);
            case WORD: return x.word(a[1], a[2]);
            case BLOCKS: return x.blocks(a[1]);
            case FREE: return x.free();
            default: return x.moved();
        }
    }
}
