public final class Promise13AwaitTest {
    public static void main(String[] args) {
        Check check = new Check("promise 13, await");
        bitsAreThere(check);
        noBits(check);
        oneTakesThemAll(check);
        eachSumOfRights(check);
        refusals(check);
        check.end();
    }

    private static void bitsAreThere(Check check) {
        check.about("BITS not 0: they become its WORD (OUTCOME OK, BADGE 0, ADDRESS -1) and are 0: 0");
        CapKernel k = new CapKernel();
        k.receive(2, 7);
        k.mint(2, 5, 7, 9);
        k.send(5, 6, 3);
        check.heard(k, 1, 0, 0, 6, 9, 7);
        k.mint(3, 4, 3, 40);
        k.signal(4);
        check.is("BITS are there", 0, Check.passTo(k, 1).await(3));
        check.heard(k, 1, 0, 0, 40, 0, -1);
        check.is("BITS", 0, k.look(1, 3, 4));
        check.is("it goes on", 1, k.current());
    }

    private static void noBits(Check check) {
        check.about("else WAITING: 1");
        CapKernel k = new CapKernel();
        check.is("no BITS", 1, k.await(3));
        check.heard(k, 1, 5, 0, 0, 0, 0);
        check.is("the next is CURRENT", 2, k.current());
        check.is("no BITS", 1, k.await(3));
        check.is("no BITS", 1, k.await(3));
        check.is("none is CURRENT", 0, k.current());
        k = new CapKernel();
        k.retype(1, 2, 4);
        k.signal(3);
        check.is("BITS of another do not count", 1, k.await(4));
        check.is("they stay", 1, k.look(2, 3, 4));
    }

    private static void oneTakesThemAll(Check check) {
        check.about("they become its WORD (OUTCOME OK, BADGE 0, ADDRESS -1) and are 0");
        CapKernel k = new CapKernel();
        k.mint(3, 4, 3, 130);
        k.signal(4);
        k.signal(3);
        check.is("by a marked one too", 0, k.await(4));
        check.is("WORD, of all the BITS", 131, k.thread(1, 2));
        check.is("none is left", 1, k.await(4));
        check.heard(k, 1, 5, 0, 131, 0, -1);
        check.is("2 wakes it", 0, k.signal(3));
        check.heard(k, 1, 0, 0, 1, 0, -1);
    }

    private static void eachSumOfRights(Check check) {
        check.about("Waits at a NOTIFICATION (READ)");
        for (int rights = 0; rights <= 7; rights++) {
            int some = rights;
            Check.Setup setup = k -> k.copy(3, 4, some);
            if ((rights & 1) != 0) {
                check.takes("RIGHTS " + rights, setup, k -> k.await(4));
            } else {
                check.refuses(Check.RIGHTS, "RIGHTS " + rights, setup, k -> k.await(4));
                check.refuses(Check.RIGHTS, "RIGHTS " + rights + ", BITS being there", k -> {
                    k.copy(3, 4, some);
                    k.signal(3);
                }, k -> k.await(4));
            }
        }
    }

    private static void refusals(Check check) {
        check.about("Waits at a NOTIFICATION");
        check.refuses(Check.STATE, "none is CURRENT", Check.NONE_CURRENT, k -> k.await(-1));
        check.refuses(Check.ARGUMENT, "await(-1)", Check.NEW, k -> k.await(-1));
        check.refuses(Check.ARGUMENT, "await(72)", Check.NEW, k -> k.await(72));
        check.refuses(Check.NOTHING_THERE, "an empty SLOT", Check.NEW, k -> k.await(4));
        check.refuses(Check.NOTHING_THERE, "no SLOT", Check.NEW, k -> k.await(71));
        check.refuses(Check.ARGUMENT, "NAMES", Check.NEW, k -> k.await(0));
        check.refuses(Check.ARGUMENT, "an UNTYPED", Check.NEW, k -> k.await(1));
        check.refuses(Check.ARGUMENT, "an ENDPOINT", Check.NEW, k -> k.await(2));
        check.refuses(Check.ARGUMENT, "a TABLE", k -> k.retype(1, 3, 4), k -> k.await(4));
    }
}
