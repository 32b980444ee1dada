import java.util.NoSuchElementException;

/** Counts the answers of one test that are not the ones due. */
final class Check {
    static final Class<? extends RuntimeException> ARGUMENT = IllegalArgumentException.class;
    static final Class<? extends RuntimeException> NOTHING_THERE = NoSuchElementException.class;
    static final Class<? extends RuntimeException> RIGHTS = UnsupportedOperationException.class;
    static final Class<? extends RuntimeException> STATE = IllegalStateException.class;

    interface Act {
        int on(CapKernel k);
    }

    interface Setup {
        void on(CapKernel k);
    }

    static final Setup NEW = k -> { };
    static final Setup NONE_CURRENT = k -> {
        k.await(3);
        k.await(3);
        k.await(3);
    };

    private final String name;
    private String sentence = "";
    private int wrong;

    Check(String name) {
        this.name = name;
    }

    /** The document's words that the checks from here on are for. */
    void about(String words) {
        sentence = " [" + words + "]";
    }

    void is(String call, int want, int got) {
        if (got != want) {
            tell(call + " answered " + got + ", due is " + want);
        }
    }

    /** The row is all that thread answers of a thread but its PRIORITY. */
    void heard(CapKernel k, int thread, int state, int outcome, int word, int badge, int address) {
        is("STATE of " + thread, state, k.thread(thread, 0));
        is("OUTCOME of " + thread, outcome, k.thread(thread, 1));
        is("WORD of " + thread, word, k.thread(thread, 2));
        is("BADGE of " + thread, badge, k.thread(thread, 3));
        is("ADDRESS of " + thread, address, k.thread(thread, 4));
    }

    /** A new object for each refusal, so that looking at all of its state stays below 512 calls. */
    void refuses(Class<? extends RuntimeException> want, String call, Setup setup, Act act) {
        CapKernel k = new CapKernel();
        setup.on(k);
        String before = stateOf(k);
        try {
            tell(call + " answered " + act.on(k) + ", due is " + want.getSimpleName());
            return;
        } catch (RuntimeException thrown) {
            if (thrown.getClass() != want) {
                tell(call + " threw " + thrown + ", due is " + want.getSimpleName());
            }
        }
        if (!stateOf(k).equals(before)) {
            tell(call + " was refused, but changed something");
        }
    }

    void takes(String call, Setup setup, Act act) {
        CapKernel k = new CapKernel();
        setup.on(k);
        try {
            act.on(k);
        } catch (RuntimeException thrown) {
            tell(call + " threw " + thrown + ", but nothing speaks against it");
        }
    }

    /** The ADDRESS of a SLOT of the TABLE that a SLOT of the ROOT leads to. */
    static int in(int rootSlot, int slot) {
        return 8 + 8 * rootSlot + slot;
    }

    /** All that look answers of a capability. */
    void looks(CapKernel k, int thread, int address, int... due) {
        if (isEmpty(k, thread, address)) {
            tell("ADDRESS " + address + " of " + thread + " is empty");
            return;
        }
        for (int what = 0; what < due.length; what++) {
            is("look(" + thread + ", " + address + ", " + what + ")", due[what], k.look(thread, address, what));
        }
    }

    void isEmptyAt(CapKernel k, int thread, int address) {
        if (!isEmpty(k, thread, address)) {
            tell("ADDRESS " + address + " of " + thread + " is not empty");
        }
    }

    static CapKernel passTo(CapKernel k, int thread) {
        for (int i = 0; i < 3 && k.current() != thread; i++) {
            k.pass();
        }
        return k;
    }

    /** Copies of thread 1's capability go to threads 2 and 3, and thread 1 is CURRENT again. */
    static void share(CapKernel k, int from, int into) {
        for (int thread = 2; thread <= 3; thread++) {
            passTo(k, thread).receive(2, into);
            passTo(k, 1).send(2, 0, from);
        }
        passTo(k, 1);
    }

    static boolean isEmpty(CapKernel k, int thread, int address) {
        try {
            k.look(thread, address, 0);
            return false;
        } catch (NoSuchElementException none) {
            return true;
        }
    }

    static String stateOf(CapKernel k) {
        StringBuilder state = new StringBuilder();
        state.append(k.current()).append('|');
        for (int what = 0; what < 6; what++) {
            state.append(k.count(what)).append(' ');
        }
        for (int thread = 1; thread <= 3; thread++) {
            for (int what = 0; what < 6; what++) {
                state.append(k.thread(thread, what)).append(' ');
            }
            for (int address = 0; address < 8; address++) {
                appendSlot(state, k, thread, address);
            }
        }
        return state.toString();
    }

    private static void appendSlot(StringBuilder state, CapKernel k, int thread, int address) {
        if (isEmpty(k, thread, address)) {
            state.append("- ");
            return;
        }
        for (int what = 0; what < 5; what++) {
            state.append(k.look(thread, address, what)).append(',');
        }
        if (address < 8 && k.look(thread, address, 0) == 3) {
            for (int slot = 0; slot < 8; slot++) {
                appendSlot(state, k, thread, 8 + 8 * address + slot);
            }
        }
    }

    void tell(String what) {
        wrong++;
        System.out.println(name + sentence + ": " + what);
    }

    void end() {
        if (wrong != 0) {
            System.out.println(name + ": " + wrong + " answers are not as due");
            System.exit(1);
        }
        System.out.println(name + ": as due");
    }
}
