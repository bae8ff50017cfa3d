/** Compares answers with those that are due, and tells how many were wrong. */
final class Check {
    /** A call that is due to throw. */
    interface Step {
        void run();
    }

    private String sentence = "";
    private int wrong = 0;

    /** The words of the document that the answers from here on are looked at for. */
    void sentence(String words) {
        sentence = words;
    }

    void same(String what, long got, long due) {
        if (got != due) {
            tell(what + " answered " + got + ", due is " + due);
        }
    }

    void same(String what, String got, String due) {
        if (!got.equals(due)) {
            tell(what + " is " + got + ", due is " + due);
        }
    }

    void badArgument(String what, Step call) {
        throwsA(what, IllegalArgumentException.class, call);
    }

    void fault(String what, Step call) {
        throwsA(what, IndexOutOfBoundsException.class, call);
    }

    void notEnough(String what, Step call) {
        throwsA(what, IllegalStateException.class, call);
    }

    /** The very class is due: a subclass of it would be an exception that nobody threw by hand. */
    private void throwsA(String what, Class<? extends RuntimeException> due, Step call) {
        try {
            call.run();
            tell(what + " threw nothing, due is " + due.getSimpleName());
        } catch (RuntimeException e) {
            if (e.getClass() != due) {
                tell(what + " threw " + e.getClass().getSimpleName() + ", due is " + due.getSimpleName());
            }
        }
    }

    /** Looks at the number of free blocks of all orders, from order 0 on. */
    void freeBlocks(String what, MovedFrames x, int... due) {
        for (int order = 0; order < due.length; order++) {
            same(what + ": blocks(" + order + ")", x.blocks(order), due[order]);
        }
    }

    void tell(String what) {
        wrong++;
        System.out.println(sentence.isEmpty() ? what : "\"" + sentence + "\": " + what);
    }

    void end() {
        System.out.println(wrong == 0 ? "all answers are as due" : wrong + " answers are not as due");
        if (wrong != 0) {
            System.exit(1);
        }
    }
}
