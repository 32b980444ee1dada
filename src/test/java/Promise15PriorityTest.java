public final class Promise15PriorityTest {
    public static void main(String[] args) {
        Check check = new Check("promise 15, priority");
        CapKernel k = new CapKernel();
        check.is("the old one", 1, k.priority(3, 3));
        check.is("the new one", 3, k.thread(3, 5));
        check.is("3 is CURRENT", 3, k.current());
        check.is("the old one", 3, k.priority(3, 0));
        check.is("1 is CURRENT", 1, k.current());
        check.is("the same again", 0, k.priority(3, 0));
        k.priority(1, 0);
        k.priority(2, 0);
        check.is("the LINE is as it was", 1, k.current());
        Check.NONE_CURRENT.on(k);
        check.is("from outside, none being CURRENT", 0, k.priority(2, 2));
        check.is("a thread that waits", 2, k.thread(2, 5));
        check.refuses(Check.ARGUMENT, "thread 0", Check.NEW, n -> n.priority(0, 1));
        check.refuses(Check.ARGUMENT, "thread 4", Check.NEW, n -> n.priority(4, 1));
        check.refuses(Check.ARGUMENT, "PRIORITY -1", Check.NEW, n -> n.priority(1, -1));
        check.refuses(Check.ARGUMENT, "PRIORITY 4", Check.NEW, n -> n.priority(1, 4));
        check.refuses(Check.ARGUMENT, "none being CURRENT", Check.NONE_CURRENT, n -> n.priority(-1, 1));
        check.end();
    }
}
