public final class Promise16CurrentTest {
    public static void main(String[] args) {
        Check check = new Check("promise 16, current");
        check.about("The CURRENT thread, 0 if none.");
        CapKernel k = new CapKernel();
        check.is("at first", 1, k.current());
        check.is("asking changes nothing", 1, k.current());
        k.priority(2, 2);
        check.is("the greatest PRIORITY", 2, k.current());
        k.await(3);
        check.is("of those that are READY", 1, k.current());
        k.receive(2, -1);
        check.is("the last one READY", 3, k.current());
        k.send(2, 4, -1);
        check.is("who becomes READY goes to the end", 3, k.current());
        k.signal(3);
        check.is("but PRIORITY goes before", 2, k.current());
        noneInAnyState(check);
        check.end();
    }

    private static void noneInAnyState(Check check) {
        CapKernel k = new CapKernel();
        Check.NONE_CURRENT.on(k);
        check.is("all WAITING", 0, k.current());
        k = new CapKernel();
        k.send(2, 1, -1);
        k.call(2, 1);
        k.send(2, 1, -1);
        check.is("all SENDING or CALLING", 0, k.current());
        k = new CapKernel();
        k.receive(2, -1);
        k.receive(2, -1);
        k.receive(2, -1);
        check.is("all RECEIVING", 0, k.current());
        k = new CapKernel();
        k.call(2, 1);
        k.receive(2, -1);
        k.await(3);
        check.is("3 is left", 3, k.current());
        k.await(3);
        check.is("ASKING and WAITING", 0, k.current());
    }
}
