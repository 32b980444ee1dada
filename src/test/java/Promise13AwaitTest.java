public final class Promise13AwaitTest {
    public static void main(String[] args) {
        Check check = new Check("promise 13, await");
        CapKernel k = new CapKernel();
        k.mint(3, 4, 3, 40);
        k.signal(4);
        check.is("BITS are there", 0, k.await(4));
        check.heard(k, 1, 0, 0, 40, 0, -1);
        check.is("BITS", 0, k.look(1, 3, 4));
        check.is("it goes on", 1, k.current());
        check.is("no BITS", 1, k.await(3));
        check.heard(k, 1, 5, 0, 40, 0, -1);
        check.is("current()", 2, k.current());
        k.copy(3, 5, 1);
        check.is("READ is enough", 1, k.await(5));
        check.is("1 is the first that waits", 1, k.signal(3));
        check.heard(k, 1, 0, 0, 1, 0, -1);
        refusals(check);
        check.end();
    }

    private static void refusals(Check check) {
        check.refuses(Check.STATE, "none is CURRENT", Check.NONE_CURRENT, k -> k.await(-1));
        check.refuses(Check.ARGUMENT, "await(-1)", Check.NEW, k -> k.await(-1));
        check.refuses(Check.ARGUMENT, "await(72)", Check.NEW, k -> k.await(72));
        check.refuses(Check.NOTHING_THERE, "an empty SLOT", Check.NEW, k -> k.await(4));
        check.refuses(Check.NOTHING_THERE, "no SLOT", Check.NEW, k -> k.await(71));
        check.refuses(Check.ARGUMENT, "an ENDPOINT", Check.NEW, k -> k.await(2));
        check.refuses(Check.ARGUMENT, "an UNTYPED", Check.NEW, k -> k.await(1));
        check.refuses(Check.RIGHTS, "without READ", k -> k.copy(3, 4, 6), k -> k.await(4));
    }
}
