public final class Promise11AnswerTest {
    public static void main(String[] args) {
        Check check = new Check("promise 11, answer");
        answersOnce(check);
        onlyTheLast(check);
        aSendBetween(check);
        notALaterCall(check);
        askingOutlivesTheEndpoint(check);
        refusals(check);
        check.end();
    }

    private static void answersOnce(Check check) {
        CapKernel k = new CapKernel();
        k.call(2, 3);
        k.receive(2, -1);
        check.is("answer", 1, k.answer(Integer.MIN_VALUE));
        check.heard(k, 1, 0, 0, Integer.MIN_VALUE, 0, -1);
        check.is("who answers goes on", 2, k.current());
        k.pass();
        check.is("the asker is last in the LINE", 1, k.pass());
    }

    private static void onlyTheLast(Check check) {
        Check.Setup both = k -> {
            k.call(2, 1);
            k.call(2, 2);
            k.receive(2, -1);
            k.receive(2, -1);
        };
        CapKernel k = new CapKernel();
        both.on(k);
        check.is("the last of two", 2, k.answer(5));
        check.is("the first still asks", 3, k.thread(1, 0));
        check.refuses(Check.STATE, "the first of two", n -> {
            both.on(n);
            n.answer(5);
        }, n -> n.answer(6));
    }

    private static void aSendBetween(Check check) {
        CapKernel k = new CapKernel();
        k.call(2, 1);
        k.send(2, 2, -1);
        k.receive(2, -1);
        k.receive(2, -1);
        check.is("a send is no call", 1, k.answer(5));
    }

    private static void notALaterCall(Check check) {
        // Thread 2 answers thread 1, whose next call thread 3 takes.
        check.refuses(Check.STATE, "a later call of the same thread", k -> {
            k.call(2, 1);
            k.receive(2, -1);
            k.answer(5);
            k.pass();
            k.receive(2, -1);
            k.call(2, 2);
        }, k -> k.answer(6));
        CapKernel k = new CapKernel();
        k.call(2, 1);
        k.receive(2, -1);
        k.answer(5);
        k.pass();
        k.receive(2, -1);
        k.call(2, 2);
        check.is("1 asks", 3, k.thread(1, 0));
        check.is("2 passes", 3, k.pass());
        check.is("3 may", 1, k.answer(6));
    }

    private static void askingOutlivesTheEndpoint(Check check) {
        CapKernel k = new CapKernel();
        k.call(2, 1);
        k.receive(2, -1);
        k.delete(2);
        k.pass();
        k.delete(2);
        check.is("1 asks still", 3, k.thread(1, 0));
        k.pass();
        check.is("and is answered", 1, k.answer(8));
        check.heard(k, 1, 0, 0, 8, 0, -1);
    }

    private static void refusals(Check check) {
        check.refuses(Check.STATE, "none is CURRENT", Check.NONE_CURRENT, k -> k.answer(1));
        check.refuses(Check.STATE, "no call was received", Check.NEW, k -> k.answer(1));
        check.refuses(Check.STATE, "a send was", k -> {
            k.send(2, 1, -1);
            k.receive(2, -1);
        }, k -> k.answer(1));
        check.refuses(Check.STATE, "twice", k -> {
            k.call(2, 1);
            k.receive(2, -1);
            k.answer(1);
        }, k -> k.answer(1));
        check.refuses(Check.STATE, "another thread's", k -> {
            k.call(2, 1);
            k.receive(2, -1);
            k.pass();
        }, k -> k.answer(1));
    }
}
