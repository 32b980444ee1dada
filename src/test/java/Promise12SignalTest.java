public final class Promise12SignalTest {
    public static void main(String[] args) {
        Check check = new Check("promise 12, signal");
        gathersBits(check);
        wakesTheFirst(check);
        refusals(check);
        check.end();
    }

    private static void gathersBits(Check check) {
        CapKernel k = new CapKernel();
        k.mint(3, 4, 2, 12);
        k.mint(3, 5, 2, 6);
        check.is("without a BADGE", 0, k.signal(3));
        check.is("BITS", 1, k.look(1, 3, 4));
        check.is("with 12", 0, k.signal(4));
        check.is("BITS", 13, k.look(1, 3, 4));
        check.is("with 6", 0, k.signal(5));
        check.is("BITS", 15, k.look(1, 5, 4));
        k.signal(5);
        check.is("the same again", 15, k.look(2, 3, 4));
    }

    private static void wakesTheFirst(Check check) {
        CapKernel k = new CapKernel();
        k.pass();
        k.pass();
        k.await(3);
        k.pass();
        k.await(3);
        check.is("current()", 1, k.current());
        k.mint(3, 4, 2, 130);
        check.is("one still waits", 1, k.signal(4));
        check.heard(k, 3, 0, 0, 130, 0, -1);
        check.is("BITS are 0 again", 0, k.look(1, 3, 4));
        check.is("2 waits", 5, k.thread(2, 0));
        check.is("none waits", 0, k.signal(3));
        check.heard(k, 2, 0, 0, 1, 0, -1);
        check.is("the first woken", 3, k.pass());
        check.is("the second woken", 2, k.pass());
        k = new CapKernel();
        k.pass();
        k.await(3);
        k.pass();
        k.await(3);
        check.is("1 still waits", 1, k.signal(3));
    }

    private static void refusals(Check check) {
        check.refuses(Check.STATE, "none is CURRENT", Check.NONE_CURRENT, k -> k.signal(-1));
        check.refuses(Check.ARGUMENT, "signal(-1)", Check.NEW, k -> k.signal(-1));
        check.refuses(Check.ARGUMENT, "signal(72)", Check.NEW, k -> k.signal(72));
        check.refuses(Check.NOTHING_THERE, "an empty SLOT", Check.NEW, k -> k.signal(4));
        check.refuses(Check.NOTHING_THERE, "no SLOT", Check.NEW, k -> k.signal(40));
        check.refuses(Check.ARGUMENT, "an ENDPOINT", Check.NEW, k -> k.signal(2));
        check.refuses(Check.RIGHTS, "without WRITE", k -> k.copy(3, 4, 5), k -> k.signal(4));
    }
}
