public final class Promise17ThreadTest {
    public static void main(String[] args) {
        Check check = new Check("promise 17, thread");
        eachPart(check);
        eachState(check);
        eachOutcome(check);
        refusals(check);
        check.end();
    }

    private static void eachPart(Check check) {
        check.about("Of a thread: STATE (0), OUTCOME (1), WORD (2), BADGE (3), ADDRESS (4), PRIORITY (5).");
        CapKernel k = new CapKernel();
        k.receive(2, 5);
        k.mint(2, 4, 7, 6);
        k.send(4, 19, 3);
        k.priority(1, 3);
        int[] due = {0, 0, 19, 6, 5, 3};
        for (int what = 0; what < due.length; what++) {
            check.is("thread(1, " + what + ")", due[what], k.thread(1, what));
        }
        int[] others = {0, 0, 0, 0, 0, 1};
        for (int what = 0; what < others.length; what++) {
            check.is("thread(2, " + what + ")", others[what], k.thread(2, what));
            check.is("thread(3, " + what + ")", others[what], k.thread(3, what));
        }
    }

    private static void eachState(Check check) {
        check.about("STATES: READY 0, SENDING 1, CALLING 2 (sending, and wants an answer), ASKING 3 (its call was taken,"
                + " no answer yet), RECEIVING 4, WAITING 5.");
        CapKernel k = new CapKernel();
        k.receive(2, -1);
        check.is("RECEIVING", 4, k.thread(1, 0));
        k.send(2, 1, -1);
        check.is("READY", 0, k.thread(1, 0));
        k.send(2, 1, -1);
        check.is("SENDING", 1, k.thread(2, 0));
        k.call(2, 1);
        check.is("CALLING", 2, k.thread(3, 0));
        k.receive(2, -1);
        k.receive(2, -1);
        check.is("READY", 0, k.thread(2, 0));
        check.is("ASKING", 3, k.thread(3, 0));
        k.await(3);
        check.is("WAITING", 5, k.thread(1, 0));
        check.is("with the WORD of what came before", 1, k.thread(1, 2));
        k.await(3);
        check.is("none being CURRENT", 5, k.thread(2, 0));
    }

    private static void eachOutcome(Check check) {
        check.about("the last OUTCOME of what it waited for: OK 0, ABORTED 1");
        CapKernel k = new CapKernel();
        k.retype(1, 2, 4);
        Check.share(k, 4, 5);
        Check.passTo(k, 2).await(5);
        Check.passTo(k, 1).revoke(1);
        check.is("ABORTED", CapKernel.ABORTED, k.thread(2, 1));
        check.is("OK", CapKernel.OK, k.thread(3, 1));
        k.call(0, 104);
        check.is("another's OUTCOME", CapKernel.ABORTED, k.thread(2, 1));
    }

    private static void refusals(Check check) {
        check.about("PRIORITY (5). IllegalArgumentException.");
        for (int thread : new int[] {0, 4, -1, Integer.MIN_VALUE, Integer.MAX_VALUE}) {
            check.refuses(Check.ARGUMENT, "thread " + thread, Check.NEW, k -> k.thread(thread, 0));
        }
        for (int what : new int[] {-1, 6, Integer.MIN_VALUE, Integer.MAX_VALUE}) {
            check.refuses(Check.ARGUMENT, "what " + what, Check.NEW, k -> k.thread(1, what));
        }
        check.refuses(Check.ARGUMENT, "none being CURRENT", Check.NONE_CURRENT, k -> k.thread(1, 6));
    }
}
