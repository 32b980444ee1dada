public final class Promise12SignalTest {
    public static void main(String[] args) {
        Check check = new Check("promise 12, signal");
        withoutABadge(check);
        eachBadge(check);
        gathersBits(check);
        wakesTheFirst(check);
        howManyStillWait(check);
        onlyItsOwn(check);
        eachSumOfRights(check);
        refusals(check);
        check.end();
    }

    private static void withoutABadge(Check check) {
        check.about("its BITS get those of the BADGE (1 without one)");
        CapKernel k = new CapKernel();
        check.is("signal", 0, k.signal(3));
        check.is("BITS", 1, k.look(1, 3, 4));
        check.is("the same again", 0, k.signal(3));
        check.is("BITS are not counted", 1, k.look(1, 3, 4));
        check.is("the one who signals goes on", 1, k.current());
        check.heard(k, 1, 0, 0, 0, 0, 0);
    }

    private static void eachBadge(Check check) {
        check.about("its BITS get those of the BADGE");
        for (int badge : new int[] {1, 2, 127, 128, 254, 255}) {
            CapKernel k = new CapKernel();
            k.mint(3, 4, 2, badge);
            check.is("signal", 0, k.signal(4));
            check.is("BITS", badge, k.look(1, 3, 4));
            check.is("await", 0, k.await(3));
            check.is("WORD", badge, k.thread(1, 2));
        }
    }

    private static void gathersBits(Check check) {
        check.about("its BITS get those of the BADGE (1 without one)");
        CapKernel k = new CapKernel();
        k.mint(3, 4, 2, 12);
        k.mint(3, 5, 2, 6);
        k.mint(3, 6, 2, 255);
        k.signal(3);
        check.is("with 12", 0, k.signal(4));
        check.is("BITS", 13, k.look(1, 3, 4));
        check.is("with 6", 0, k.signal(5));
        check.is("BITS", 15, k.look(1, 5, 4));
        k.signal(5);
        check.is("the same again", 15, k.look(2, 3, 4));
        k.signal(6);
        k.signal(6);
        check.is("all of them", 255, k.look(3, 3, 4));
    }

    private static void wakesTheFirst(Check check) {
        check.about("if one waits, the first one gets them as its WORD and is READY, and they are 0 again");
        CapKernel k = new CapKernel();
        Check.passTo(k, 3).await(3);
        Check.passTo(k, 2).await(3);
        check.is("current()", 1, k.current());
        k.mint(3, 4, 2, 130);
        k.priority(2, 3);
        check.is("one still waits", 1, k.signal(4));
        check.heard(k, 3, 0, 0, 130, 0, -1);
        check.is("BITS are 0 again", 0, k.look(1, 3, 4));
        check.is("2 waits, for all its PRIORITY", 5, k.thread(2, 0));
        k.priority(2, 1);
        check.is("none waits", 0, k.signal(3));
        check.heard(k, 2, 0, 0, 1, 0, -1);
        check.is("the first woken", 3, k.pass());
        check.is("the second woken", 2, k.pass());
        check.is("then BITS stay", 0, k.signal(3));
        check.is("BITS", 1, k.look(1, 3, 4));
    }

    private static void howManyStillWait(Check check) {
        check.about("How many still wait.");
        CapKernel k = new CapKernel();
        check.is("none waited", 0, k.signal(3));
        k.await(3);
        k.await(3);
        check.is("one waited", 0, k.signal(3));
        k = new CapKernel();
        k.await(3);
        k.await(3);
        check.is("two waited", 1, k.signal(3));
        check.is("one waited", 0, k.signal(3));
        check.is("none waited", 0, k.signal(3));
        for (int first = 1; first <= 3; first++) {
            for (int second = 1; second <= 3; second++) {
                if (first != second) {
                    CapKernel n = new CapKernel();
                    Check.passTo(n, first).await(3);
                    Check.passTo(n, second).await(3);
                    check.is(second + " still waits", 1, n.signal(3));
                    check.is("STATE of " + first, 0, n.thread(first, 0));
                    check.is("STATE of " + second, 5, n.thread(second, 0));
                }
            }
        }
    }

    private static void onlyItsOwn(Check check) {
        check.about("Signals by a NOTIFICATION's capability");
        CapKernel k = new CapKernel();
        k.retype(1, 2, 4);
        k.pass();
        k.await(3);
        k.receive(2, -1);
        check.is("who waits elsewhere does not count", 0, k.signal(4));
        check.is("2 waits", 5, k.thread(2, 0));
        check.is("3 receives", 4, k.thread(3, 0));
        check.is("BITS", 1, k.look(1, 4, 4));
        check.is("BITS of the other", 0, k.look(1, 3, 4));
    }

    private static void eachSumOfRights(Check check) {
        check.about("Signals by a NOTIFICATION's capability (WRITE)");
        for (int rights = 0; rights <= 7; rights++) {
            int some = rights;
            Check.Setup setup = k -> k.copy(3, 4, some);
            if ((rights & 2) != 0) {
                check.takes("RIGHTS " + rights, setup, k -> k.signal(4));
            } else {
                check.refuses(Check.RIGHTS, "RIGHTS " + rights, setup, k -> k.signal(4));
            }
        }
    }

    private static void refusals(Check check) {
        check.about("Signals by a NOTIFICATION's capability");
        check.refuses(Check.STATE, "none is CURRENT", Check.NONE_CURRENT, k -> k.signal(-1));
        check.refuses(Check.ARGUMENT, "signal(-1)", Check.NEW, k -> k.signal(-1));
        check.refuses(Check.ARGUMENT, "signal(72)", Check.NEW, k -> k.signal(72));
        check.refuses(Check.NOTHING_THERE, "an empty SLOT", Check.NEW, k -> k.signal(4));
        check.refuses(Check.NOTHING_THERE, "no SLOT", Check.NEW, k -> k.signal(40));
        check.refuses(Check.ARGUMENT, "NAMES", Check.NEW, k -> k.signal(0));
        check.refuses(Check.ARGUMENT, "an UNTYPED", Check.NEW, k -> k.signal(1));
        check.refuses(Check.ARGUMENT, "an ENDPOINT", Check.NEW, k -> k.signal(2));
        check.refuses(Check.ARGUMENT, "a TABLE", k -> k.retype(1, 3, 4), k -> k.signal(4));
    }
}
