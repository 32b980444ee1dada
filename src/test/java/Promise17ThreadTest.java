public final class Promise17ThreadTest {
    public static void main(String[] args) {
        Check check = new Check("promise 17, thread");
        CapKernel k = new CapKernel();
        k.receive(2, 5);
        check.is("RECEIVING", 4, k.thread(1, 0));
        k.mint(2, 4, 7, 6);
        k.send(4, 19, 3);
        int[] due = {0, 0, 19, 6, 5, 1};
        for (int what = 0; what < due.length; what++) {
            check.is("thread(1, " + what + ")", due[what], k.thread(1, what));
        }
        k.send(2, 1, -1);
        check.is("SENDING", 1, k.thread(2, 0));
        k.call(2, 1);
        check.is("CALLING", 2, k.thread(3, 0));
        k.receive(2, -1);
        k.receive(2, -1);
        check.is("READY", 0, k.thread(2, 0));
        check.is("ASKING", 3, k.thread(3, 0));
        k.await(3);
        check.is("WAITING", 5, k.thread(1, 0));
        check.is("without what it waits for", 1, k.thread(1, 2));
        k.await(3);
        check.is("none being CURRENT", 5, k.thread(2, 0));
        check.refuses(Check.ARGUMENT, "thread 0", Check.NEW, n -> n.thread(0, 0));
        check.refuses(Check.ARGUMENT, "thread 4", Check.NEW, n -> n.thread(4, 0));
        check.refuses(Check.ARGUMENT, "what -1", Check.NEW, n -> n.thread(1, -1));
        check.refuses(Check.ARGUMENT, "what 6", Check.NEW, n -> n.thread(1, 6));
        check.refuses(Check.ARGUMENT, "none being CURRENT", Check.NONE_CURRENT, n -> n.thread(1, 6));
        check.end();
    }
}
