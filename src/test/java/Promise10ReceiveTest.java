public final class Promise10ReceiveTest {
    public static void main(String[] args) {
        Check check = new Check("promise 10, receive");
        receives(check);
        sendersKeepTheRest(check);
        slotsThatFillOrEmpty(check);
        intoATable(check);
        refusals(check);
        check.end();
    }

    private static void receives(Check check) {
        CapKernel k = new CapKernel();
        check.is("nobody sends", 1, k.receive(2, -1));
        check.heard(k, 1, 4, 0, 0, 0, 0);
        check.is("nor now", 1, k.receive(2, -1));
        check.is("current()", 3, k.current());
        k.copy(2, 4, 1);
        check.is("READ is enough", 1, k.receive(4, -1));
        check.is("none is CURRENT", 0, k.current());
    }

    private static void sendersKeepTheRest(Check check) {
        CapKernel k = new CapKernel();
        k.retype(1, 1, 4);
        Check.share(k, 4, 5);
        Check.passTo(k, 2).receive(5, -1);
        Check.passTo(k, 1).revoke(1);
        check.heard(k, 2, 0, 1, 0, 0, 5);
        check.is("2 sends", 1, Check.passTo(k, 2).send(2, 40, -1));
        check.is("OUTCOME is ABORTED still", 1, k.thread(2, 1));
        check.is("1 receives", 0, Check.passTo(k, 1).receive(2, -1));
        check.heard(k, 2, 0, 0, 0, 0, 5);
        check.heard(k, 1, 0, 0, 40, 0, -1);
        check.is("1 goes on", 1, k.current());
        check.is("2 is behind 3", 3, k.pass());
        check.is("2", 2, k.pass());
    }

    private static void slotsThatFillOrEmpty(Check check) {
        CapKernel k = new CapKernel();
        check.is("the SLOT is full when it receives, and when it comes", 1, k.receive(2, 2));
        k.send(2, 1, 3);
        check.heard(k, 1, 0, 0, 1, 0, -1);
        k = new CapKernel();
        k.send(2, 1, 3);
        check.is("receive at once into a full SLOT", 0, k.receive(2, 3));
        check.heard(k, 2, 0, 0, 1, 0, -1);
        k = new CapKernel();
        k.send(2, 1, -1);
        check.is("a SLOT but no capability", 0, k.receive(2, 7));
        check.heard(k, 2, 0, 0, 1, 0, -1);
    }

    private static void intoATable(Check check) {
        CapKernel k = new CapKernel();
        k.retype(1, 3, 4);
        k.receive(2, 8 + 8 * 4 + 3);
        k.send(2, 1, 1);
        check.heard(k, 1, 0, 0, 1, 0, 8 + 8 * 4 + 3);
        check.is("the capability is there", 0, k.look(1, 8 + 8 * 4 + 3, 0));
    }

    private static void refusals(Check check) {
        check.refuses(Check.STATE, "none is CURRENT", Check.NONE_CURRENT, k -> k.receive(-1, -1));
        check.refuses(Check.ARGUMENT, "at -1", Check.NEW, k -> k.receive(-1, -1));
        check.refuses(Check.ARGUMENT, "into -2", Check.NEW, k -> k.receive(2, -2));
        check.refuses(Check.ARGUMENT, "into 72", Check.NEW, k -> k.receive(2, 72));
        check.refuses(Check.NOTHING_THERE, "an empty SLOT", Check.NEW, k -> k.receive(4, -1));
        check.refuses(Check.NOTHING_THERE, "into no SLOT", Check.NEW, k -> k.receive(2, 24));
        check.refuses(Check.NOTHING_THERE, "into no SLOT, of the wrong kind", Check.NEW, k -> k.receive(3, 24));
        check.refuses(Check.ARGUMENT, "a NOTIFICATION", Check.NEW, k -> k.receive(3, -1));
        check.refuses(Check.RIGHTS, "without READ", k -> k.copy(2, 4, 6), k -> k.receive(4, -1));
        check.refuses(Check.RIGHTS, "NAMES, for which none has READ", Check.NEW, k -> k.receive(0, -1));
    }
}
