/** Compares answers with those that are due, and tells how many were wrong. */
final class Check {
    /** A call that is due to throw. */
    interface Step {
        void run();
    }

    private int wrong = 0;

    void same(String what, long got, long due) {
        if (got != due) {
            tell(what + " answered " + got + ", due is " + due);
        }
    }

    void badArgument(String what, Step call) {
        throwsA(what, IllegalArgumentException.class, call);
    }

    void fault(String what, Step call) {
        throwsA(what, IndexOutOfBoundsException.class, call);
    }

    void notEnough(String what, Step call) {
        throwsA(what, IllegalStateException.class, call);
    }

    /** The very class is due: a subclass of it would be an exception that nobody threw by hand. */
    private void throwsA(String what, Class<? extends RuntimeException> due, Step call) {
        try {
            call.run();
            tell(what + " threw nothing, due is " + due.getSimpleName());
        } catch (RuntimeException e) {
            if (e.getClass() != due) {
                tell(what + " threw " + e.getClass().getSimpleName() + ", due is " + due.getSimpleName());
            }
        }
    }

    /** Runs a call that is due to throw, and looks that nothing that can be seen has changed. */
    void changesNothing(String what, MovedFrames x, Step call) {
        String before = Picture.of(x);
        try {
            call.run();
            tell(what + " threw nothing");
        } catch (RuntimeException e) {
            if (!before.equals(Picture.of(x))) {
                tell(what + " threw and changed something");
            }
        }
    }

    /** Looks at the number of free blocks of all orders, from order 0 on. */
    void freeBlocks(String what, MovedFrames x, int... due) {
        for (int order = 0; order < due.length; order++) {
            same(what + ": blocks(" + order + ")", x.blocks(order), due[order]);
        }
    }

    void tell(String what) {
        wrong++;
        System.out.println(what);
    }

    void end() {
        System.out.println(wrong == 0 ? "all answers are as due" : wrong + " answers are not as due");
        if (wrong != 0) {
            System.exit(1);
        }
    }
}
