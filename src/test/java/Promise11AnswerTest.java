public final class Promise11AnswerTest {
    public static void main(String[] args) {
        Check check = new Check("promise 11, answer");
        answers(check);
        callTakenByOneThatReceived(check);
        noCallReceived(check);
        onlyTheLast(check);
        onlyOnce(check);
        onlyWhoReceived(check);
        aSendBetween(check);
        notALaterCall(check);
        notItsOwnLaterCall(check);
        askingOutlivesTheEndpoint(check);
        check.end();
    }

    private static void answers(Check check) {
        check.about("with a WORD: that one is READY, OUTCOME OK, BADGE 0, ADDRESS -1: its number");
        for (int caller = 1; caller <= 3; caller++) {
            CapKernel k = Check.passTo(new CapKernel(), caller);
            k.call(2, 3);
            int receiver = k.current();
            k.receive(2, -1);
            check.is("answer", caller, k.answer(Integer.MIN_VALUE));
            check.heard(k, caller, 0, 0, Integer.MIN_VALUE, 0, -1);
            check.is("who answers goes on", receiver, k.current());
            k.pass();
            check.is("the asker is last in the LINE", caller, k.pass());
        }
    }

    private static void callTakenByOneThatReceived(Check check) {
        check.about("Answers the last thread whose call it received");
        CapKernel k = new CapKernel();
        k.receive(2, -1);
        k.call(2, 9);
        check.is("1 was RECEIVING before", 2, Check.passTo(k, 1).answer(Integer.MAX_VALUE));
        check.heard(k, 2, 0, 0, Integer.MAX_VALUE, 0, -1);
    }

    private static void noCallReceived(Check check) {
        check.about("if that is still ASKING for that call (else IllegalStateException)");
        check.refuses(Check.STATE, "none is CURRENT", Check.NONE_CURRENT, k -> k.answer(1));
        check.refuses(Check.STATE, "no call was received", Check.NEW, k -> k.answer(1));
        check.refuses(Check.STATE, "a send was", k -> {
            k.send(2, 1, -1);
            k.receive(2, -1);
        }, k -> k.answer(1));
        check.refuses(Check.STATE, "a call waits, but is not received yet", k -> k.call(2, 1), k -> k.answer(1));
        check.refuses(Check.STATE, "only a server was called", k -> k.call(0, 105), k -> k.answer(1));
    }

    private static void onlyTheLast(Check check) {
        check.about("Answers the last thread whose call it received");
        Check.Setup both = k -> {
            k.call(2, 1);
            k.call(2, 2);
            k.receive(2, -1);
            k.receive(2, -1);
        };
        CapKernel k = new CapKernel();
        both.on(k);
        check.is("the last of two", 2, k.answer(5));
        check.is("the first still asks", 3, k.thread(1, 0));
        check.refuses(Check.STATE, "the first of two", n -> {
            both.on(n);
            n.answer(5);
        }, n -> n.answer(6));
    }

    private static void onlyOnce(Check check) {
        check.about("if that is still ASKING for that call (else IllegalStateException)");
        check.refuses(Check.STATE, "twice", k -> {
            k.call(2, 1);
            k.receive(2, -1);
            k.answer(1);
        }, k -> k.answer(1));
        check.refuses(Check.STATE, "the asker has come to wait for something else", k -> {
            k.call(2, 1);
            k.receive(2, -1);
            k.answer(1);
            Check.passTo(k, 1).await(3);
            Check.passTo(k, 2);
        }, k -> k.answer(1));
    }

    private static void onlyWhoReceived(Check check) {
        check.about("Answers the last thread whose call it received");
        check.refuses(Check.STATE, "another thread's", k -> {
            k.call(2, 1);
            k.receive(2, -1);
            k.pass();
        }, k -> k.answer(1));
        CapKernel k = new CapKernel();
        k.call(2, 1);
        k.receive(2, -1);
        k.receive(2, -1);
        k.call(2, 2);
        check.is("2 received 1's call and then 3's", 3, k.answer(5));
    }

    private static void aSendBetween(Check check) {
        check.about("Answers the last thread whose call it received");
        CapKernel k = new CapKernel();
        k.call(2, 1);
        k.send(2, 2, -1);
        k.receive(2, -1);
        k.receive(2, -1);
        check.is("a send is no call", 1, k.answer(5));
    }

    private static void notALaterCall(Check check) {
        check.about("if that is still ASKING for that call");
        // Thread 2 answers thread 1, whose next call thread 3 takes.
        Check.Setup later = k -> {
            k.call(2, 1);
            k.receive(2, -1);
            k.answer(5);
            k.pass();
            k.receive(2, -1);
            k.call(2, 2);
        };
        check.refuses(Check.STATE, "a later call of the same thread", later, k -> k.answer(6));
        CapKernel k = new CapKernel();
        later.on(k);
        check.is("1 asks", 3, k.thread(1, 0));
        check.is("2 passes", 3, k.pass());
        check.is("3 may", 1, k.answer(6));
    }

    private static void notItsOwnLaterCall(Check check) {
        check.about("if that is still ASKING for that call");
        check.refuses(Check.STATE, "the asker's next call waits", k -> {
            k.call(2, 1);
            k.receive(2, -1);
            k.answer(5);
            Check.passTo(k, 1).call(2, 2);
            Check.passTo(k, 2);
        }, k -> k.answer(6));
        CapKernel k = new CapKernel();
        k.call(2, 1);
        k.receive(2, -1);
        k.answer(5);
        Check.passTo(k, 1).call(2, 2);
        Check.passTo(k, 2).receive(2, -1);
        check.is("received, it may be answered", 1, k.answer(6));
        check.heard(k, 1, 0, 0, 6, 0, -1);
    }

    private static void askingOutlivesTheEndpoint(Check check) {
        check.about("if that is still ASKING for that call");
        CapKernel k = new CapKernel();
        k.call(2, 1);
        k.receive(2, -1);
        k.delete(2);
        k.pass();
        k.delete(2);
        check.is("1 asks still", 3, k.thread(1, 0));
        k.pass();
        check.is("and is answered", 1, k.answer(8));
        check.heard(k, 1, 0, 0, 8, 0, -1);
    }
}
