import java.util.Random;

/** Long runs of calls, the same on the class and on the model: all promises together. */
public final class ModelTest {
    private static final int RUNS = 300;
    private static final int CALLS = 512;
    private static final long BAD_ARGUMENT = 1L << 40;
    private static final long FAULT = 2L << 40;
    private static final long NOT_ENOUGH = 3L << 40;
    private static final long OTHER = 4L << 40;
    private static final String[] NAMES = {"kmalloc", "kfree", "vmalloc", "vfree", "create", "destroy",
        "mmap", "munmap", "load", "store", "contig", "release"};
    /** How often each call comes: evenly, mostly pages and runs, mostly ranges, mostly slabs. */
    private static final int[][] WEIGHTS = {
        {10, 6, 5, 4, 4, 1, 8, 4, 15, 20, 8, 6},
        {3, 3, 1, 1, 4, 1, 10, 5, 20, 40, 25, 22},
        {4, 2, 30, 25, 2, 1, 4, 2, 10, 10, 3, 2},
        {45, 35, 2, 2, 1, 0, 2, 1, 10, 15, 3, 2}};
    private static final int[] ODD = {-1, -2, -3, -16, 0, 1, 4, 9, 16, 64, 65, 255, 256, 1024, 4095, 4096,
        Integer.MIN_VALUE, Integer.MAX_VALUE};

    private static final Check check = new Check();

    public static void main(String[] args) {
        long[] seen = new long[5];
        int moved = 0;
        for (int run = 0; run < RUNS; run++) {
            moved += oneRun(run, seen);
        }
        // Runs that never reach a corner would pass for nothing.
        for (int kind = 0; kind < 4; kind++) {
            check.same("outcomes of kind " + kind + " were seen", seen[kind] > 1000 ? 1 : 0, 1);
        }
        check.same("pages were moved", moved > 1000 ? 1 : 0, 1);
        check.end();
    }

    private static int oneRun(int run, long[] seen) {
        Random random = new Random(run);
        MovedFrames real = new MovedFrames();
        Model model = new Model();
        for (int call = 0; call < CALLS; call++) {
            int kind = pick(random, WEIGHTS[run % WEIGHTS.length]);
            int[] a = arguments(random, kind, model);
            String told = "run " + run + ", call " + call + ": " + NAMES[kind] + "(" + a[0] + ", " + a[1]
                + ", " + a[2] + ")";
            long due = outcome(() -> onModel(model, kind, a));
            long got = outcome(() -> onReal(real, kind, a));
            seen[(int) (due >>> 40 & 7) % 5]++;
            if (got != due || call % 8 == 7 && !sameState(told, real, model)) {
                check.same(told, got, due);
                return model.moved();
            }
        }
        return model.moved();
    }

    private static int pick(Random random, int[] weights) {
        int sum = 0;
        for (int weight : weights) {
            sum += weight;
        }
        int left = random.nextInt(sum);
        int kind = 0;
        while (left >= weights[kind]) {
            left -= weights[kind++];
        }
        return kind;
    }

    private static int[] arguments(Random random, int kind, Model model) {
        int[] a = {0, 0, random.nextInt()};
        switch (kind) {
            case 0, 2 -> a[0] = 1 + random.nextInt(8);
            case 1 -> a[0] = 2 * random.nextInt(512 / (1 + random.nextInt(16)) + 1);
            case 3 -> a[0] = 16 * random.nextInt(64);
            case 5 -> a[0] = random.nextInt(4);
            case 6, 7 -> {
                a[0] = random.nextInt(4);
                a[1] = random.nextInt(random.nextBoolean() ? 40 : 256);
                a[2] = 1 + random.nextInt(random.nextBoolean() ? 8 : 64);
            }
            case 8, 9 -> {
                a[0] = random.nextInt(6) - 2;
                a[1] = random.nextInt(a[0] < 0 || random.nextBoolean() ? 640 : 4096);
            }
            case 10 -> a[0] = random.nextInt(random.nextInt(6) + 1);
            case 11 -> a[0] = aRun(random, model);
            default -> { }
        }
        if (random.nextInt(25) == 0) {
            a[random.nextInt(3)] = ODD[random.nextInt(ODD.length)];
        }
        return a;
    }

    private static int aRun(Random random, Model model) {
        int frame = random.nextInt(64);
        while (frame > 0 && model.owner(frame) != 5) {
            frame--;
        }
        while (frame > 0 && random.nextInt(4) > 0 && model.owner(frame - 1) == 5) {
            frame--;
        }
        return frame;
    }

    private static long outcome(java.util.function.LongSupplier call) {
        try {
            return call.getAsLong() & 0xffffffffL;
        } catch (RuntimeException e) {
            Class<?> thrown = e.getClass();
            return thrown == IllegalArgumentException.class ? BAD_ARGUMENT
                : thrown == IndexOutOfBoundsException.class ? FAULT
                : thrown == IllegalStateException.class ? NOT_ENOUGH : OTHER;
        }
    }

    private static long onReal(MovedFrames x, int kind, int[] a) {
        switch (kind) {
            case 0: return x.kmalloc(a[0]);
            case 1: x.kfree(a[0]); return 0;
            case 2: return x.vmalloc(a[0]);
            case 3: return x.vfree(a[0]);
            case 4: return x.create();
            case 5: return x.destroy(a[0]);
            case 6: x.mmap(a[0], a[1], a[2]); return 0;
            case 7: return x.munmap(a[0], a[1], a[2]);
            case 8: return x.load(a[0], a[1]);
            case 9: x.store(a[0], a[1], a[2]); return 0;
            case 10: return x.contig(a[0]);
            default: return x.release(a[0]);
        }
    }

    private static long onModel(Model x, int kind, int[] a) {
        switch (kind) {
            case 0: return x.kmalloc(a[0]);
            case 1: x.kfree(a[0]); return 0;
            case 2: return x.vmalloc(a[0]);
            case 3: return x.vfree(a[0]);
            case 4: return x.create();
            case 5: return x.destroy(a[0]);
            case 6: x.mmap(a[0], a[1], a[2]); return 0;
            case 7: return x.munmap(a[0], a[1], a[2]);
            case 8: return x.load(a[0], a[1]);
            case 9: x.store(a[0], a[1], a[2]); return 0;
            case 10: return x.contig(a[0]);
            default: return x.release(a[0]);
        }
    }

    private static boolean sameState(String told, MovedFrames real, Model model) {
        boolean same = real.free() == model.free() && real.moved() == model.moved();
        for (int order = -1; order <= 7; order++) {
            same &= real.blocks(order) == model.blocks(order);
        }
        for (int frame = -1; frame <= 64; frame++) {
            same &= real.owner(frame) == model.owner(frame);
            for (int w = -1; w <= 16; w++) {
                same &= real.word(frame, w) == model.word(frame, w);
            }
        }
        for (int space = -3; space <= 4; space++) {
            for (int page = -1; page <= 256; page++) {
                same &= real.frame(space, page) == model.frame(space, page);
            }
        }
        if (!same) {
            check.tell(told + " left another state than is due");
        }
        return same;
    }
}
