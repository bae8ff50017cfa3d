import java.util.ArrayList;
import java.util.List;
import java.util.function.Supplier;

/**
 * Looks whether a call that throws changes anything: of two objects in the same state one gets that
 * call, and then both get the same calls, those that only ask and those that show what cannot be
 * asked, such as regions, the beginnings of ranges and runs, and what is given next. Every list of
 * calls has two new objects of its own, so that none gets more than the 512 calls of the document.
 */
final class Twins {
    /** A call with its answer; 0 for one that answers nothing. */
    interface Call {
        long on(MovedFrames x);
    }

    private static final int LONGEST_LIST = 200;
    private static final List<List<Call>> LISTS = lists();

    private final Supplier<MovedFrames> state;
    private final List<List<String>> undisturbed = new ArrayList<>();

    Twins(Supplier<MovedFrames> state) {
        this.state = state;
        for (List<Call> list : LISTS) {
            undisturbed.add(outcomes(state.get(), list));
        }
    }

    void refuses(Check check, Class<? extends RuntimeException> due, String what, Call refused) {
        for (int i = 0; i < LISTS.size(); i++) {
            MovedFrames x = state.get();
            String outcome = outcome(x, refused);
            if (!outcome.equals(due.getSimpleName())) {
                check.tell(what + " answered " + outcome + ", due is " + due.getSimpleName());
                return;
            }
            if (!outcomes(x, LISTS.get(i)).equals(undisturbed.get(i))) {
                check.tell(what + " threw and changed something, list " + i + " of calls shows it");
                return;
            }
        }
    }

    private static List<String> outcomes(MovedFrames x, List<Call> list) {
        List<String> found = new ArrayList<>();
        for (Call call : list) {
            found.add(outcome(x, call));
        }
        return found;
    }

    private static String outcome(MovedFrames x, Call call) {
        try {
            return Long.toString(call.on(x));
        } catch (RuntimeException e) {
            return e.getClass().getSimpleName();
        }
    }

    private static List<List<Call>> lists() {
        List<List<Call>> lists = new ArrayList<>();
        lists.add(asks());
        addCut(lists, words());
        addCut(lists, pages());
        addCut(lists, addresses());
        lists.add(allAreGone());
        lists.add(newRuns());
        lists.add(newObjects());
        lists.add(newRanges());
        lists.add(newSpaces());
        return lists;
    }

    private static void addCut(List<List<Call>> lists, List<Call> all) {
        for (int from = 0; from < all.size(); from += LONGEST_LIST) {
            lists.add(all.subList(from, Math.min(all.size(), from + LONGEST_LIST)));
        }
    }

    private static List<Call> asks() {
        List<Call> calls = new ArrayList<>(List.of(MovedFrames::free, MovedFrames::moved));
        for (int i = 0; i < 64; i++) {
            int number = i;
            calls.add(x -> x.owner(number));
            calls.add(x -> x.frame(-2, number));
        }
        for (int i = 0; i <= 6; i++) {
            int order = i;
            calls.add(x -> x.blocks(order));
        }
        return calls;
    }

    private static List<Call> words() {
        List<Call> calls = new ArrayList<>();
        for (int i = 0; i < 1024; i++) {
            int place = i;
            calls.add(x -> x.word(place / 16, place % 16));
        }
        return calls;
    }

    /** Three lists one behind the other: they would hide from each other what they show. */
    private static List<Call> pages() {
        List<Call> frames = new ArrayList<>();
        List<Call> regions = new ArrayList<>();
        List<Call> touches = new ArrayList<>();
        for (int i = 0; i < 1024; i++) {
            int space = i / 256;
            int page = i % 256;
            frames.add(x -> x.frame(space, page));
            regions.add(x -> {
                x.mmap(space, page, 1);
                return 0;
            });
            touches.add(x -> x.load(space, 16 * page));
        }
        frames.addAll(regions);
        frames.addAll(touches);
        return frames;
    }

    private static List<Call> addresses() {
        List<Call> loads = new ArrayList<>();
        List<Call> frees = new ArrayList<>();
        for (int i = 0; i < 1024; i++) {
            int address = i;
            loads.add(x -> x.load(-1, address));
            loads.add(x -> x.load(-2, address));
            frees.add(x -> {
                x.kfree(address);
                return 0;
            });
        }
        loads.addAll(frees);
        return loads;
    }

    private static List<Call> allAreGone() {
        List<Call> calls = new ArrayList<>();
        for (int i = 0; i < 64; i++) {
            int number = i;
            calls.add(x -> x.vfree(16 * number));
            calls.add(x -> x.release(number));
        }
        for (int i = 0; i < 4; i++) {
            int space = i;
            calls.add(x -> x.munmap(space, 0, 64));
            calls.add(x -> x.destroy(space));
        }
        calls.add(MovedFrames::free);
        return calls;
    }

    private static List<Call> newRuns() {
        List<Call> calls = new ArrayList<>();
        for (int i = 5; i >= 0; i--) {
            int order = i;
            calls.add(x -> x.contig(order));
            calls.add(x -> x.contig(order));
        }
        calls.add(MovedFrames::moved);
        return calls;
    }

    private static List<Call> newObjects() {
        List<Call> calls = new ArrayList<>();
        for (int i = 0; i < 150; i++) {
            int size = 2 << i % 3;
            calls.add(x -> x.kmalloc(size));
        }
        return calls;
    }

    private static List<Call> newRanges() {
        List<Call> calls = new ArrayList<>();
        for (int i = 0; i < 24; i++) {
            int n = 8 - i % 8;
            calls.add(x -> x.vmalloc(n));
        }
        calls.addAll(asks());
        return calls;
    }

    private static List<Call> newSpaces() {
        List<Call> calls = new ArrayList<>();
        for (int i = 0; i < 4; i++) {
            calls.add(MovedFrames::create);
        }
        calls.addAll(asks());
        return calls;
    }
}
