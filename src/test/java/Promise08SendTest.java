public final class Promise08SendTest {
    public static void main(String[] args) {
        Check check = new Check("promise 8, send");
        toOneThatReceives(check);
        toNobodyYet(check);
        firstReceiverFirst(check);
        withACapability(check);
        withACapabilityThatWaits(check);
        movedMeanwhile(check);
        eachSumOfRights(check);
        refusedNumbersAndSlots(check);
        refusedKinds(check);
        refusedServers(check);
        check.end();
    }

    private static void toOneThatReceives(Check check) {
        check.about("if one receives, the first one gets it and is READY: 0");
        CapKernel k = new CapKernel();
        k.receive(2, 7);
        k.mint(2, 5, 2, 99);
        check.is("send", 0, k.send(5, -123, -1));
        check.heard(k, 1, 0, 0, -123, 99, -1);
        check.heard(k, 2, 0, 0, 0, 0, 0);
        check.is("the sender goes on", 2, k.current());
        check.is("the receiver is last in the LINE", 3, k.pass());
        check.is("after 3", 1, k.pass());
    }

    private static void toNobodyYet(Check check) {
        check.about("else the thread is SENDING: 1");
        CapKernel k = new CapKernel();
        check.is("send", 1, k.send(2, Integer.MAX_VALUE, -1));
        check.heard(k, 1, 1, 0, 0, 0, 0);
        check.is("the next is CURRENT", 2, k.current());
        k.mint(2, 4, 2, 200);
        check.is("a second", 1, k.send(4, 6, -1));
        check.is("the first one's message", 0, k.receive(2, -1));
        check.heard(k, 3, 0, 0, Integer.MAX_VALUE, 0, -1);
        check.heard(k, 1, 0, 0, 0, 0, 0);
        check.is("the second one's", 0, k.receive(2, -1));
        check.heard(k, 3, 0, 0, 6, 200, -1);
        k = new CapKernel();
        k.retype(1, 1, 4);
        k.pass();
        k.receive(2, -1);
        check.is("one that receives elsewhere does not count", 1, Check.passTo(k, 1).send(4, 1, -1));
        check.is("it still receives", 4, k.thread(2, 0));
    }

    private static void firstReceiverFirst(Check check) {
        check.about("if one receives, the first one gets it and is READY");
        CapKernel k = new CapKernel();
        Check.passTo(k, 3).receive(2, -1);
        Check.passTo(k, 2).receive(2, -1);
        k.priority(2, 3);
        k.send(2, 1, -1);
        check.heard(k, 3, 0, 0, 1, 0, -1);
        check.is("2 receives still, for all its PRIORITY", 4, k.thread(2, 0));
        k.send(2, 2, -1);
        check.heard(k, 2, 0, 0, 2, 0, -1);
    }

    private static void withACapability(Check check) {
        check.about("a WORD, and the capability at the ADDRESS with (-1 none)");
        CapKernel k = new CapKernel();
        k.receive(2, 6);
        k.mint(3, 4, 3, 17);
        check.is("send with one", 0, k.send(2, 5, 4));
        check.heard(k, 1, 0, 0, 5, 0, 6);
        check.looks(k, 1, 6, 2, 3, 17, 0, 0);
        check.is("it is DERIVED from the sender's", 1, k.look(2, 4, 3));
        check.is("taken back", 1, k.revoke(4));
        k.retype(1, 3, 5);
        k.copy(1, Check.in(5, 7), 7);
        Check.passTo(k, 1).receive(2, 6);
        check.is("one of a TABLE", 0, Check.passTo(k, 2).send(2, 5, Check.in(5, 7)));
        check.looks(k, 1, 6, 0, 7, 0, 0, 4);
        for (int slot = 0; slot < 4; slot++) {
            CapKernel n = new CapKernel();
            n.receive(2, 7);
            check.is("the one at " + slot, 0, n.send(2, 0, slot));
            check.looks(n, 1, 7, new int[] {1, 0, 1, 2}[slot], slot == 0 ? 2 : 7, slot == 0 ? 2 : 0, 0, 0);
        }
    }

    private static void withACapabilityThatWaits(Check check) {
        check.about("else the thread is SENDING: 1");
        CapKernel k = new CapKernel();
        k.mint(3, 5, 7, 4);
        k.priority(1, 2);
        k.mint(2, 6, 6, 12);
        k.send(6, 8, 5);
        check.is("nothing comes of it yet", 0, k.look(1, 5, 3));
        check.is("into an empty SLOT", 0, k.receive(2, 7));
        check.heard(k, 2, 0, 0, 8, 12, 7);
        check.is("its BADGE", 4, k.look(2, 7, 2));
        check.is("CAME OF it", 1, k.look(1, 5, 3));
        check.is("the sender is CURRENT by its PRIORITY", 1, k.current());
    }

    private static void movedMeanwhile(Check check) {
        check.about("A capability that is gone meanwhile does not come.");
        // One that is moved is not gone: it stays what it is.
        CapKernel k = new CapKernel();
        k.retype(1, 3, 4);
        k.mint(3, Check.in(4, 0), 7, 5);
        Check.share(k, 4, 6);
        k.send(2, 1, Check.in(4, 0));
        Check.passTo(k, 2).move(Check.in(6, 0), 7);
        k.copy(3, Check.in(6, 0), 7);
        check.is("3 receives", 0, Check.passTo(k, 3).receive(2, 7));
        check.heard(k, 3, 0, 0, 1, 0, 7);
        check.is("that capability came, where it stands now", 5, k.look(3, 7, 2));
        check.is("it is DERIVED from it", 1, k.look(2, 7, 3));
    }

    private static void eachSumOfRights(Check check) {
        check.about("(WRITE; for a capability that goes with it GRANT too)");
        for (int rights = 0; rights <= 7; rights++) {
            int some = rights;
            Check.Setup setup = k -> k.copy(2, 4, some);
            if ((rights & 2) != 0) {
                check.takes("RIGHTS " + rights, setup, k -> k.send(4, 0, -1));
            } else {
                check.refuses(Check.RIGHTS, "RIGHTS " + rights, setup, k -> k.send(4, 0, -1));
            }
            if ((rights & 6) == 6) {
                check.takes("RIGHTS " + rights + " with one", setup, k -> k.send(4, 0, 3));
            } else {
                check.refuses(Check.RIGHTS, "RIGHTS " + rights + " with one", setup, k -> k.send(4, 0, 3));
            }
        }
        check.takes("what goes with it needs no RIGHTS", k -> k.copy(3, 4, 0), k -> k.send(2, 0, 4));
    }

    private static void refusedNumbersAndSlots(Check check) {
        check.about("the capability at the ADDRESS with (-1 none)");
        check.refuses(Check.STATE, "none is CURRENT", Check.NONE_CURRENT, k -> k.send(-1, 0, -2));
        check.refuses(Check.ARGUMENT, "at -1", Check.NEW, k -> k.send(-1, 0, -1));
        check.refuses(Check.ARGUMENT, "at 72", Check.NEW, k -> k.send(72, 0, -1));
        check.refuses(Check.ARGUMENT, "with -2", Check.NEW, k -> k.send(2, 0, -2));
        check.refuses(Check.ARGUMENT, "with 72", Check.NEW, k -> k.send(2, 0, 72));
        check.refuses(Check.NOTHING_THERE, "an empty SLOT", Check.NEW, k -> k.send(4, 0, -1));
        check.refuses(Check.NOTHING_THERE, "with an empty SLOT", Check.NEW, k -> k.send(2, 0, 4));
        check.refuses(Check.NOTHING_THERE, "with no SLOT", Check.NEW, k -> k.send(2, 0, 8));
        check.refuses(Check.NOTHING_THERE, "with an empty SLOT, the wrong kind", Check.NEW, k -> k.send(3, 0, 4));
    }

    private static void refusedKinds(Check check) {
        check.about("Sends by an ENDPOINT's capability");
        check.refuses(Check.ARGUMENT, "an UNTYPED", Check.NEW, k -> k.send(1, 0, -1));
        check.refuses(Check.ARGUMENT, "a NOTIFICATION", Check.NEW, k -> k.send(3, 0, -1));
        check.refuses(Check.ARGUMENT, "a TABLE", k -> k.retype(1, 3, 4), k -> k.send(4, 0, -1));
        check.refuses(Check.ARGUMENT, "an UNTYPED without RIGHTS", k -> k.copy(1, 4, 0), k -> k.send(4, 0, -1));
    }

    private static void refusedServers(Check check) {
        check.about("(a send to NAMES or FILES is IllegalStateException, a receive too)");
        check.refuses(Check.RIGHTS, "NAMES with one", Check.NEW, k -> k.send(0, 0, 3));
        check.refuses(Check.STATE, "NAMES", Check.NEW, k -> k.send(0, 105, -1));
        check.refuses(Check.STATE, "FILES", k -> k.call(0, 105), k -> k.send(5, 300, -1));
    }
}
