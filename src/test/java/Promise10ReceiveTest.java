public final class Promise10ReceiveTest {
    public static void main(String[] args) {
        Check check = new Check("promise 10, receive");
        receives(check);
        sendersKeepTheRest(check);
        callersAsk(check);
        aSlotThatThereIs(check);
        noneWanted(check);
        eachSumOfRights(check);
        refusals(check);
        check.end();
    }

    private static void receives(Check check) {
        check.about("else RECEIVING: 1");
        CapKernel k = new CapKernel();
        check.is("nobody sends", 1, k.receive(2, -1));
        check.heard(k, 1, 4, 0, 0, 0, 0);
        check.is("nor now", 1, k.receive(2, -1));
        check.is("current()", 3, k.current());
        check.is("nor for the last", 1, k.receive(2, -1));
        check.is("none is CURRENT", 0, k.current());
        k = new CapKernel();
        k.retype(1, 1, 4);
        k.pass();
        k.send(2, 1, -1);
        check.is("one that sends elsewhere does not count", 1, Check.passTo(k, 1).receive(4, -1));
        check.is("it still sends", 1, k.thread(2, 0));
    }

    private static void sendersKeepTheRest(Check check) {
        check.about("if one sends, the first one's message comes: one that was SENDING is READY (OUTCOME OK, the rest as"
                + " it was)");
        CapKernel k = new CapKernel();
        k.retype(1, 1, 4);
        Check.share(k, 4, 5);
        Check.passTo(k, 2).receive(5, -1);
        Check.passTo(k, 1).revoke(1);
        check.heard(k, 2, 0, 1, 0, 0, 5);
        check.is("2 sends", 1, Check.passTo(k, 2).send(2, 40, -1));
        check.is("OUTCOME is ABORTED still", 1, k.thread(2, 1));
        check.is("1 receives", 0, Check.passTo(k, 1).receive(2, -1));
        check.heard(k, 2, 0, 0, 0, 0, 5);
        check.heard(k, 1, 0, 0, 40, 0, -1);
        check.is("1 goes on", 1, k.current());
        check.is("2 is behind 3", 3, k.pass());
        check.is("2", 2, k.pass());
    }

    private static void callersAsk(Check check) {
        check.about("one that was CALLING is ASKING, and this thread may answer it: 0");
        CapKernel k = new CapKernel();
        k.mint(2, 4, 2, 6);
        k.call(4, 31);
        check.is("receive", 0, k.receive(2, 7));
        check.heard(k, 2, 0, 0, 31, 6, -1);
        check.heard(k, 1, 3, 0, 0, 0, 0);
        check.is("2 goes on", 2, k.current());
        check.is("2 may answer", 1, k.answer(32));
        check.heard(k, 1, 0, 0, 32, 0, -1);
    }

    private static void aSlotThatThereIs(Check check) {
        check.about("a capability going to the ADDRESS into (-1 none wanted; a SLOT that there is)");
        for (int slot = 0; slot < 8; slot++) {
            CapKernel k = new CapKernel();
            check.is("full or empty, " + slot, 1, k.receive(2, slot));
            k.send(2, 1, 3);
            check.heard(k, 1, 0, 0, 1, 0, slot < 4 ? -1 : slot);
            k = new CapKernel();
            k.send(2, 1, 3);
            check.is("full or empty, at once, " + slot, 0, k.receive(2, slot));
            check.heard(k, 2, 0, 0, 1, 0, slot < 4 ? -1 : slot);
        }
        for (int slot = 0; slot < 8; slot++) {
            int into = Check.in(4, slot);
            CapKernel k = new CapKernel();
            k.retype(1, 3, 4);
            k.receive(2, into);
            k.send(2, 1, 1);
            check.heard(k, 1, 0, 0, 1, 0, into);
            check.looks(k, 1, into, 0, 7, 0, 0, 0);
        }
        for (int address : new int[] {8, 15, 16, 39, 40, 71}) {
            check.refuses(Check.NOTHING_THERE, "into " + address, Check.NEW, k -> k.receive(2, address));
        }
    }

    private static void noneWanted(Check check) {
        check.about("(-1 none wanted; a SLOT that there is)");
        CapKernel k = new CapKernel();
        k.send(2, 1, 3);
        check.is("-1", 0, k.receive(2, -1));
        check.heard(k, 2, 0, 0, 1, 0, -1);
        check.is("capabilities", 12, k.count(0));
        k = new CapKernel();
        k.receive(2, 7);
        k.send(2, 1, 3);
        Check.passTo(k, 1).receive(2, -1);
        k.send(2, 2, 3);
        check.heard(k, 1, 0, 0, 2, 0, -1);
        check.is("the SLOT of the last time is not meant", 13, k.count(0));
        check.refuses(Check.ARGUMENT, "into -2", Check.NEW, n -> n.receive(2, -2));
        check.refuses(Check.ARGUMENT, "into 72", Check.NEW, n -> n.receive(2, 72));
        check.refuses(Check.ARGUMENT, "into MIN", Check.NEW, n -> n.receive(2, Integer.MIN_VALUE));
    }

    private static void eachSumOfRights(Check check) {
        check.about("Receives by an ENDPOINT's capability (READ)");
        for (int rights = 0; rights <= 7; rights++) {
            int some = rights;
            Check.Setup setup = k -> k.copy(2, 4, some);
            if ((rights & 1) != 0) {
                check.takes("RIGHTS " + rights, setup, k -> k.receive(4, 7));
            } else {
                check.refuses(Check.RIGHTS, "RIGHTS " + rights, setup, k -> k.receive(4, 7));
            }
        }
        check.refuses(Check.RIGHTS, "NAMES, for which none has READ", Check.NEW, k -> k.receive(0, -1));
    }

    private static void refusals(Check check) {
        check.about("Receives by an ENDPOINT's capability");
        check.refuses(Check.STATE, "none is CURRENT", Check.NONE_CURRENT, k -> k.receive(-1, -1));
        check.refuses(Check.ARGUMENT, "at -1", Check.NEW, k -> k.receive(-1, -1));
        check.refuses(Check.ARGUMENT, "at 72", Check.NEW, k -> k.receive(72, -1));
        check.refuses(Check.NOTHING_THERE, "an empty SLOT", Check.NEW, k -> k.receive(4, -1));
        check.refuses(Check.NOTHING_THERE, "into no SLOT, of the wrong kind", Check.NEW, k -> k.receive(3, 24));
        check.refuses(Check.ARGUMENT, "an UNTYPED", Check.NEW, k -> k.receive(1, -1));
        check.refuses(Check.ARGUMENT, "a NOTIFICATION", Check.NEW, k -> k.receive(3, -1));
        check.refuses(Check.ARGUMENT, "a TABLE", k -> k.retype(1, 3, 4), k -> k.receive(4, -1));
    }
}
