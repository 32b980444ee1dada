/** The edges of the LINE: who is CURRENT, who goes to its end, and who stays. */
public final class EdgesLineTest {
    public static void main(String[] args) {
        Check check = new Check("edges, the line");
        atFirst(check);
        whoPasses(check);
        greatestPriority(check);
        whoBecomesReady(check);
        whoStaysReady(check);
        outsideDoesNotReorder(check);
        check.end();
    }

    /** The threads that are READY, in the order of the LINE, if all have the same PRIORITY. */
    private static int order(CapKernel k) {
        int order = 0;
        int first = k.current();
        for (int i = 0; i < 3 && k.current() != 0 && (i == 0 || k.current() != first); i++) {
            order = 10 * order + k.current();
            k.pass();
        }
        return order;
    }

    private static void atFirst(Check check) {
        check.about("the LINE is 1, 2, 3 at first");
        check.is("all", 123, order(new CapKernel()));
    }

    private static void whoPasses(Check check) {
        check.about("who becomes READY, or passes, goes to its end");
        CapKernel k = new CapKernel();
        k.pass();
        check.is("1 passed", 231, order(k));
        k.await(3);
        check.is("2 waits", 31, order(k));
        k.pass();
        check.is("3 passed", 13, order(k));
        k.await(3);
        check.is("one alone passes", 3, k.pass());
        check.is("one alone", 3, order(k));
    }

    private static void greatestPriority(Check check) {
        check.about("The CURRENT thread is the READY one of the greatest PRIORITY that comes first in the LINE");
        for (int thread = 1; thread <= 3; thread++) {
            CapKernel k = new CapKernel();
            k.priority(thread, 2);
            check.is("of a greater PRIORITY", thread, k.current());
            check.is("it passes, and is CURRENT again", thread, k.pass());
            k.priority(thread, 0);
            check.is("of a lesser PRIORITY", thread == 1 ? 2 : 1, k.current());
        }
        CapKernel k = new CapKernel();
        k.priority(2, 3);
        k.priority(3, 3);
        check.is("the first of the two greatest", 2, k.current());
        check.is("then the other", 3, k.pass());
        k.priority(3, 0);
        k.priority(2, 0);
        check.is("the greatest of those left", 1, k.current());
        k.await(3);
        check.is("PRIORITY 0 is enough if no other is READY", 3, k.current());
        k.priority(1, 3);
        check.is("one that waits is not CURRENT", 3, k.current());
    }

    private static void whoBecomesReady(Check check) {
        check.about("who becomes READY, or passes, goes to its end");
        CapKernel k = new CapKernel();
        k.receive(2, -1);
        k.send(2, 1, -1);
        check.is("by a send", 231, order(k));
        k = new CapKernel();
        k.send(2, 1, -1);
        k.receive(2, -1);
        check.is("by a receive", 231, order(k));
        k = new CapKernel();
        k.receive(2, -1);
        k.call(2, 1);
        check.is("by a call", 31, order(k));
        check.is("1 answers", 2, Check.passTo(k, 1).answer(4));
        check.is("by an answer", 132, order(k));
        k = new CapKernel();
        k.await(3);
        k.signal(3);
        check.is("by a signal", 231, order(k));
        k = new CapKernel();
        k.retype(1, 1, 4);
        Check.share(k, 4, 5);
        Check.passTo(k, 2).receive(5, -1);
        k.pass();
        k.revoke(1);
        check.is("by what is gone", 132, order(k));
    }

    private static void whoStaysReady(Check check) {
        check.about("who becomes READY, or passes, goes to its end");
        // Who was READY all the time keeps its place.
        CapKernel k = new CapKernel();
        k.signal(3);
        k.await(3);
        check.is("await, with BITS", 123, order(k));
        k.call(0, 105);
        k.call(5, 300);
        check.is("calls to servers", 123, order(k));
        k.copy(2, 6, 7);
        k.delete(6);
        check.is("other actions", 123, order(k));
        Check.passTo(k, 2).send(2, 1, -1);
        Check.passTo(k, 1).receive(2, -1);
        check.is("receive, of one that sends", 132, order(k));
        check.is("a refused call", 132, orderAfterRefusals(k));
    }

    private static int orderAfterRefusals(CapKernel k) {
        try {
            k.answer(1);
        } catch (IllegalStateException refused) {
            return order(k);
        }
        return -1;
    }

    private static void outsideDoesNotReorder(Check check) {
        check.about("From outside: a thread's PRIORITY 0 .. 3");
        CapKernel k = new CapKernel();
        k.priority(1, 0);
        k.priority(2, 3);
        k.priority(2, 1);
        k.priority(1, 1);
        check.is("all have 1 again", 123, order(k));
        k.priority(3, 3);
        k.await(3);
        k.priority(3, 1);
        k.signal(3);
        check.is("3 became READY last", 123, order(k));
    }
}
