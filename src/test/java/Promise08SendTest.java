public final class Promise08SendTest {
    public static void main(String[] args) {
        Check check = new Check("promise 8, send");
        toOneThatReceives(check);
        toNobodyYet(check);
        firstReceiverFirst(check);
        withACapability(check);
        withACapabilityThatWaits(check);
        goneMeanwhile(check);
        movedMeanwhile(check);
        intoASlotAsItWas(check);
        intoASlotThatIsNoMore(check);
        refusals(check);
        check.end();
    }

    private static void toOneThatReceives(Check check) {
        CapKernel k = new CapKernel();
        k.mint(2, 4, 6, 44);
        k.receive(2, 7);
        k.mint(2, 5, 2, 99);
        check.is("send", 0, k.send(5, -123, -1));
        check.heard(k, 1, 0, 0, -123, 99, -1);
        check.heard(k, 2, 0, 0, 0, 0, 0);
        check.is("the sender goes on", 2, k.current());
        check.is("the receiver is last in the LINE", 3, k.pass());
        check.is("after 3", 1, k.pass());
    }

    private static void toNobodyYet(Check check) {
        CapKernel k = new CapKernel();
        check.is("send", 1, k.send(2, Integer.MAX_VALUE, -1));
        check.heard(k, 1, 1, 0, 0, 0, 0);
        k.mint(2, 4, 2, 200);
        check.is("a second", 1, k.send(4, 6, -1));
        check.is("the first one's message", 0, k.receive(2, -1));
        check.heard(k, 3, 0, 0, Integer.MAX_VALUE, 0, -1);
        check.heard(k, 1, 0, 0, 0, 0, 0);
        check.is("the second one's", 0, k.receive(2, -1));
        check.heard(k, 3, 0, 0, 6, 200, -1);
    }

    private static void firstReceiverFirst(Check check) {
        CapKernel k = new CapKernel();
        k.pass();
        k.receive(2, -1);
        k.receive(2, -1);
        k.send(2, 1, -1);
        check.heard(k, 2, 0, 0, 1, 0, -1);
        check.is("3 receives still", 4, k.thread(3, 0));
        k.send(2, 2, -1);
        check.heard(k, 3, 0, 0, 2, 0, -1);
    }

    private static void withACapability(Check check) {
        CapKernel k = new CapKernel();
        k.receive(2, 6);
        k.mint(3, 4, 3, 17);
        check.is("send with one", 0, k.send(2, 5, 4));
        check.heard(k, 1, 0, 0, 5, 0, 6);
        int[] due = {2, 3, 17, 0, 0};
        for (int what = 0; what < due.length; what++) {
            check.is("look(1, 6, " + what + ")", due[what], k.look(1, 6, what));
        }
        check.is("it is DERIVED from the sender's", 1, k.look(2, 4, 3));
        check.is("taken back", 1, k.revoke(4));
        k.pass();
        k.pass();
        check.is("1 receives, into a full SLOT", 1, k.receive(2, 3));
        k.send(2, 5, 4);
        check.heard(k, 1, 0, 0, 5, 0, -1);
        check.is("nothing CAME OF it", 0, k.look(2, 4, 3));
        CapKernel all = new CapKernel();
        all.receive(2, 6);
        all.send(2, 5, 3);
        check.is("all its RIGHTS", 7, all.look(1, 6, 1));
        CapKernel n = new CapKernel();
        n.receive(2, -1);
        n.send(2, 5, 3);
        check.heard(n, 1, 0, 0, 5, 0, -1);
        check.is("none wanted", 12, n.count(0));
    }

    private static void withACapabilityThatWaits(Check check) {
        CapKernel k = new CapKernel();
        k.retype(1, 3, 4);
        k.mint(3, 5, 7, 4);
        k.priority(1, 2);
        k.mint(2, 6, 6, 12);
        k.send(6, 8, 5);
        check.is("nothing comes of it yet", 0, k.look(1, 5, 3));
        check.is("into an empty SLOT", 0, k.receive(2, 7));
        check.heard(k, 2, 0, 0, 8, 12, 7);
        check.is("its BADGE", 4, k.look(2, 7, 2));
        check.is("CAME OF it", 1, k.look(1, 5, 3));
        check.is("the sender is CURRENT by its PRIORITY", 1, k.current());
    }

    private static void goneMeanwhile(Check check) {
        CapKernel k = new CapKernel();
        Check.share(k, 3, 6);
        Check.passTo(k, 2).send(2, 77, 6);
        Check.passTo(k, 3).delete(6);
        Check.passTo(k, 1);
        check.is("1 takes back what 2 is sending", 1, k.revoke(3));
        check.is("the message comes without it", 0, k.receive(2, 7));
        check.heard(k, 1, 0, 0, 77, 0, -1);
        if (!Check.isEmpty(k, 1, 7)) {
            check.tell("a capability came that is gone");
        }
    }

    private static void movedMeanwhile(Check check) {
        CapKernel k = new CapKernel();
        k.retype(1, 3, 4);
        k.mint(3, 8 + 8 * 4, 7, 5);
        Check.share(k, 4, 6);
        k.send(2, 1, 8 + 8 * 4);
        Check.passTo(k, 2).move(8 + 8 * 6, 7);
        k.copy(3, 8 + 8 * 6, 7);
        check.is("3 receives", 0, Check.passTo(k, 3).receive(2, 7));
        check.heard(k, 3, 0, 0, 1, 0, 7);
        check.is("that capability came, where it stands now", 5, k.look(3, 7, 2));
        check.is("it is DERIVED from it", 1, k.look(2, 7, 3));
    }

    private static void intoASlotAsItWas(Check check) {
        CapKernel k = new CapKernel();
        k.retype(1, 3, 4);
        Check.share(k, 4, 7);
        Check.passTo(k, 2).receive(2, 8 + 8 * 7 + 5);
        Check.passTo(k, 1).move(4, 5);
        check.is("send", 0, k.send(2, 3, 3));
        check.heard(k, 2, 0, 0, 3, 0, 8 + 8 * 7 + 5);
        check.is("it is in the TABLE", 2, k.look(1, 8 + 8 * 5 + 5, 0));
        Check.passTo(k, 2).receive(2, 8 + 8 * 7 + 6);
        Check.passTo(k, 1).revoke(5);
        check.is("2 reaches the TABLE no more", 4, k.thread(2, 0));
        k.send(2, 4, 3);
        check.heard(k, 2, 0, 0, 4, 0, 8 + 8 * 7 + 6);
        check.is("but it is still there", 2, k.look(1, 8 + 8 * 5 + 6, 0));
    }

    private static void intoASlotThatIsNoMore(Check check) {
        CapKernel k = new CapKernel();
        k.retype(1, 3, 4);
        Check.share(k, 4, 7);
        Check.passTo(k, 2).receive(2, 8 + 8 * 7 + 6);
        check.is("the TABLE is gone", 3, Check.passTo(k, 1).revoke(1));
        check.is("send", 0, k.send(2, 4, 3));
        check.heard(k, 2, 0, 0, 4, 0, -1);
        check.is("nothing CAME OF it", 0, k.look(1, 3, 3));
        k = new CapKernel();
        k.retype(1, 3, 4);
        Check.share(k, 4, 7);
        Check.passTo(k, 2).receive(2, 8 + 8 * 7 + 6);
        Check.passTo(k, 1).copy(1, 8 + 8 * 4 + 6, 7);
        k.send(2, 4, 3);
        check.heard(k, 2, 0, 0, 4, 0, -1);
        check.is("the SLOT was filled meanwhile", 0, k.look(1, 8 + 8 * 4 + 6, 0));
    }

    private static void refusals(Check check) {
        check.refuses(Check.STATE, "none is CURRENT", Check.NONE_CURRENT, k -> k.send(-1, 0, -2));
        check.refuses(Check.ARGUMENT, "at -1", Check.NEW, k -> k.send(-1, 0, -1));
        check.refuses(Check.ARGUMENT, "at 72", Check.NEW, k -> k.send(72, 0, -1));
        check.refuses(Check.ARGUMENT, "with -2", Check.NEW, k -> k.send(2, 0, -2));
        check.refuses(Check.ARGUMENT, "with 72", Check.NEW, k -> k.send(2, 0, 72));
        check.refuses(Check.NOTHING_THERE, "an empty SLOT", Check.NEW, k -> k.send(4, 0, -1));
        check.refuses(Check.NOTHING_THERE, "with an empty SLOT", Check.NEW, k -> k.send(2, 0, 4));
        check.refuses(Check.NOTHING_THERE, "with an empty SLOT, the wrong kind", Check.NEW, k -> k.send(3, 0, 4));
        check.refuses(Check.ARGUMENT, "a NOTIFICATION", Check.NEW, k -> k.send(3, 0, -1));
        check.refuses(Check.ARGUMENT, "an UNTYPED without RIGHTS", k -> k.copy(1, 4, 0), k -> k.send(4, 0, -1));
        check.refuses(Check.RIGHTS, "without WRITE", k -> k.copy(2, 4, 5), k -> k.send(4, 0, -1));
        check.refuses(Check.RIGHTS, "without GRANT", k -> k.copy(2, 4, 3), k -> k.send(4, 0, 3));
        check.refuses(Check.RIGHTS, "GRANT without WRITE", k -> k.copy(2, 4, 4), k -> k.send(4, 0, 3));
        check.refuses(Check.RIGHTS, "NAMES with one", Check.NEW, k -> k.send(0, 0, 3));
        check.refuses(Check.STATE, "NAMES", Check.NEW, k -> k.send(0, 105, -1));
        check.refuses(Check.STATE, "FILES", k -> k.call(0, 105), k -> k.send(5, 300, -1));
        CapKernel k = new CapKernel();
        k.copy(2, 4, 2);
        check.is("WRITE alone, with none", 1, k.send(4, 0, -1));
    }
}
