/** Objects that are gone, and who waits at them. */
public final class GoneTest {
    public static void main(String[] args) {
        Check check = new Check("terms, what is gone");
        sendersAreAborted(check);
        waitersAreAborted(check);
        tablesGoSlotBySlot(check);
        check.end();
    }

    private static void sendersAreAborted(Check check) {
        CapKernel n = new CapKernel();
        n.retype(1, 1, 4);
        Check.share(n, 4, 5);
        check.is("3 sends first", 1, Check.passTo(n, 3).send(5, 1, -1));
        check.is("2 calls then", 1, Check.passTo(n, 2).call(5, 2));
        check.is("the first one's copies stay", 1, n.delete(4));
        check.is("nobody is aborted by it", 1, n.thread(3, 0));
        check.is("they go with the UNTYPED", 2, n.revoke(1));
        check.heard(n, 3, 0, 1, 0, 0, 5);
        check.heard(n, 2, 0, 1, 0, 0, 5);
        check.is("the longest waiting first", 3, n.pass());
        check.is("then the other", 2, n.pass());
    }

    private static void waitersAreAborted(Check check) {
        CapKernel n = new CapKernel();
        n.retype(1, 2, 4);
        Check.share(n, 4, 5);
        Check.passTo(n, 3).await(5);
        Check.passTo(n, 2).await(5);
        check.is("copies, then the NOTIFICATION itself", 3, n.revoke(1));
        check.heard(n, 3, 0, 1, 0, 0, 5);
        check.heard(n, 2, 0, 1, 0, 0, 5);
        check.is("the longest waiting first", 3, n.pass());
        n.signal(3);
        n.await(3);
        check.is("OUTCOME of the next", 0, n.thread(3, 1));
    }

    private static void tablesGoSlotBySlot(Check check) {
        CapKernel n = new CapKernel();
        n.retype(1, 3, 4);
        n.retype(1, 1, 5);
        n.retype(1, 2, 6);
        Check.share(n, 5, 5);
        Check.share(n, 6, 6);
        Check.passTo(n, 2).await(6);
        Check.passTo(n, 3).receive(5, -1);
        // Only the copies that the threads wait by are left beside those in the TABLE.
        n.move(5, 8 + 8 * 4 + 1);
        n.move(6, 8 + 8 * 4);
        check.is("they wait", 0, n.revoke(2));
        check.is("copies go first", 2, n.revoke(8 + 8 * 4));
        check.is("copies go first", 2, n.revoke(8 + 8 * 4 + 1));
        check.is("the TABLE and both", 3, n.delete(4));
        check.heard(n, 2, 0, 1, 0, 0, 6);
        check.heard(n, 3, 0, 1, 0, 0, 6);
        check.is("SLOT 0 before SLOT 1", 2, n.pass());
    }
}
