public final class Promise09CallTest {
    public static void main(String[] args) {
        Check check = new Check("promise 9, call");
        CapKernel k = new CapKernel();
        k.receive(2, 5);
        k.mint(2, 4, 2, 21);
        check.is("call of one that receives", 0, k.call(4, 500));
        check.heard(k, 1, 0, 0, 500, 21, -1);
        check.heard(k, 2, 3, 0, 0, 0, 0);
        check.is("the receiver is behind 3", 3, k.current());
        k.pass();
        check.is("it answers", 2, k.answer(-7));
        check.heard(k, 2, 0, 0, -7, 0, -1);
        callsWait(check);
        callsServers(check);
        refusals(check);
        check.end();
    }

    private static void callsWait(Check check) {
        CapKernel k = new CapKernel();
        k.mint(2, 4, 2, 3);
        check.is("nobody receives", 1, k.call(4, 11));
        check.heard(k, 1, 2, 0, 0, 0, 0);
        check.is("2 behind it", 1, k.call(2, 12));
        check.is("the first call", 0, k.receive(2, 5));
        check.heard(k, 3, 0, 0, 11, 3, -1);
        check.heard(k, 1, 3, 0, 0, 0, 0);
        check.is("2 is CALLING still", 2, k.thread(2, 0));
    }

    private static void callsServers(Check check) {
        CapKernel k = new CapKernel();
        check.is("NAMES", 2, k.call(0, 104));
        check.heard(k, 1, 0, 0, 0, 0, -1);
        check.is("others", 2, k.call(0, -1));
        check.heard(k, 1, 0, 0, -2, 0, -1);
        check.is("FILES", 2, k.call(4, 1203));
        k.call(4, 203);
        check.heard(k, 1, 0, 0, 9, 0, -1);
        check.is("the caller goes on", 1, k.current());
        check.is("its place in the LINE stays", 2, k.pass());
    }

    private static void refusals(Check check) {
        check.refuses(Check.STATE, "none is CURRENT", Check.NONE_CURRENT, k -> k.call(-1, 0));
        check.refuses(Check.ARGUMENT, "at -1", Check.NEW, k -> k.call(-1, 0));
        check.refuses(Check.ARGUMENT, "at 72", Check.NEW, k -> k.call(72, 0));
        check.refuses(Check.NOTHING_THERE, "an empty SLOT", Check.NEW, k -> k.call(7, 0));
        check.refuses(Check.NOTHING_THERE, "no SLOT", Check.NEW, k -> k.call(8, 0));
        check.refuses(Check.ARGUMENT, "an UNTYPED", Check.NEW, k -> k.call(1, 0));
        check.refuses(Check.ARGUMENT, "a NOTIFICATION", Check.NEW, k -> k.call(3, 0));
        check.refuses(Check.RIGHTS, "without WRITE", k -> k.copy(2, 4, 5), k -> k.call(4, 0));
        check.refuses(Check.RIGHTS, "NAMES without WRITE", k -> k.copy(0, 4, 5), k -> k.call(4, 105));
    }
}
