/**
 * "WHAT AN ACTION LOOKS AT, in this order": each call here breaks two conditions, and the exception of the first is
 * due; nothing changes by it.
 */
public final class EdgesOrderTest {
    private static final Check.Setup TABLE_AT_4 = k -> k.retype(1, 3, 4);
    private static final Check.Setup NO_RIGHTS_AT_4_TO_7 = k -> {
        k.copy(0, 4, 0);
        k.copy(1, 5, 0);
        k.copy(2, 6, 0);
        k.copy(3, 7, 0);
    };

    public static void main(String[] args) {
        Check check = new Check("edges, order of conditions");
        currentBeforeNumbers(check);
        numbersBeforeAddresses(check);
        addressesBeforeKinds(check);
        addressesBeforeWhatElse(check);
        kindsBeforeRights(check);
        kindsBeforeWhatElse(check);
        rightsBeforeWhatElse(check);
        fromOutside(check);
        check.end();
    }

    private static void currentBeforeNumbers(Check check) {
        check.about("there is a CURRENT thread: IllegalStateException");
        Check.Setup[] ways = {Check.NONE_CURRENT, EdgesOrderTest::allReceive, EdgesOrderTest::allInDifferentStates};
        for (Check.Setup none : ways) {
            check.refuses(Check.STATE, "copy", none, k -> k.copy(-1, 72, 8));
            check.refuses(Check.STATE, "mint", none, k -> k.mint(-1, 72, 8, 0));
            check.refuses(Check.STATE, "move", none, k -> k.move(-1, 72));
            check.refuses(Check.STATE, "delete", none, k -> k.delete(-1));
            check.refuses(Check.STATE, "revoke", none, k -> k.revoke(72));
            check.refuses(Check.STATE, "retype", none, k -> k.retype(-1, 4, 72));
            check.refuses(Check.STATE, "send", none, k -> k.send(-1, 0, -2));
            check.refuses(Check.STATE, "call", none, k -> k.call(72, 0));
            check.refuses(Check.STATE, "receive", none, k -> k.receive(-1, -2));
            check.refuses(Check.STATE, "answer", none, k -> k.answer(0));
            check.refuses(Check.STATE, "signal", none, k -> k.signal(-1));
            check.refuses(Check.STATE, "await", none, k -> k.await(72));
            check.refuses(Check.STATE, "pass", none, CapKernel::pass);
        }
    }

    private static void allReceive(CapKernel k) {
        k.receive(2, -1);
        k.receive(2, 5);
        k.receive(2, 2);
    }

    private static void allInDifferentStates(CapKernel k) {
        k.call(2, 1);
        k.receive(2, -1);
        k.send(2, 3, 3);
        k.await(3);
    }

    private static void numbersBeforeAddresses(Check check) {
        check.about("numbers in their range (ADDRESSES 0 .. 71, -1 where it is told): IllegalArgumentException");
        // Each has an empty SLOT, or none, at the other ADDRESSES.
        check.refuses(Check.ARGUMENT, "copy, rights", Check.NEW, k -> k.copy(7, 8, 8));
        check.refuses(Check.ARGUMENT, "copy, to", Check.NEW, k -> k.copy(7, 72, 7));
        check.refuses(Check.ARGUMENT, "mint, badge", Check.NEW, k -> k.mint(7, 8, 7, 256));
        check.refuses(Check.ARGUMENT, "mint, rights", Check.NEW, k -> k.mint(7, 8, -1, 1));
        check.refuses(Check.ARGUMENT, "mint, to", Check.NEW, k -> k.mint(7, -1, 7, 1));
        check.refuses(Check.ARGUMENT, "move, to", Check.NEW, k -> k.move(7, 72));
        check.refuses(Check.ARGUMENT, "move, from", Check.NEW, k -> k.move(72, 8));
        check.refuses(Check.ARGUMENT, "retype, kind", Check.NEW, k -> k.retype(7, 4, 8));
        check.refuses(Check.ARGUMENT, "retype, to", Check.NEW, k -> k.retype(7, 1, -1));
        check.refuses(Check.ARGUMENT, "send, with", Check.NEW, k -> k.send(7, 0, -2));
        check.refuses(Check.ARGUMENT, "receive, into", Check.NEW, k -> k.receive(7, -2));
        check.refuses(Check.ARGUMENT, "look, what", Check.NEW, k -> k.look(1, 7, 5));
        check.refuses(Check.ARGUMENT, "look, thread", Check.NEW, k -> k.look(4, 7, 0));
    }

    private static void addressesBeforeKinds(Check check) {
        check.about("ADDRESSES lead to a SLOT, those of capabilities to one that has one (in the order of the"
                + " arguments): NoSuchElementException");
        check.refuses(Check.NOTHING_THERE, "mint of an UNTYPED to no SLOT", Check.NEW, k -> k.mint(1, 8, 7, 1));
        check.refuses(Check.NOTHING_THERE, "retype of an ENDPOINT to no SLOT", Check.NEW, k -> k.retype(2, 1, 71));
        check.refuses(Check.NOTHING_THERE, "send by a NOTIFICATION with none", Check.NEW, k -> k.send(3, 0, 7));
        check.refuses(Check.NOTHING_THERE, "send by an UNTYPED with no SLOT's", Check.NEW, k -> k.send(1, 0, 16));
        check.refuses(Check.NOTHING_THERE, "receive by an UNTYPED into none", Check.NEW, k -> k.receive(1, 8));
        check.refuses(Check.NOTHING_THERE, "receive by a TABLE into none", TABLE_AT_4, k -> k.receive(4, 48));
    }

    private static void addressesBeforeWhatElse(Check check) {
        check.about("ADDRESSES lead to a SLOT, those of capabilities to one that has one (in the order of the"
                + " arguments): NoSuchElementException");
        check.refuses(Check.NOTHING_THERE, "copy of none into a full SLOT", Check.NEW, k -> k.copy(7, 2, 7));
        check.refuses(Check.NOTHING_THERE, "mint of none into a full SLOT", Check.NEW, k -> k.mint(7, 2, 7, 1));
        check.refuses(Check.NOTHING_THERE, "mint of a marked one to no SLOT", Check.NEW, k -> k.mint(0, 8, 7, 1));
        check.refuses(Check.NOTHING_THERE, "move of none into a full SLOT", Check.NEW, k -> k.move(7, 2));
        check.refuses(Check.NOTHING_THERE, "move of none within an empty SLOT", Check.NEW, k -> k.move(7, 7));
        check.refuses(Check.NOTHING_THERE, "retype of none into a full SLOT", Check.NEW, k -> k.retype(7, 1, 2));
        check.refuses(Check.NOTHING_THERE, "retype without WRITE to no SLOT", NO_RIGHTS_AT_4_TO_7,
                k -> k.retype(5, 1, 8));
        check.refuses(Check.NOTHING_THERE, "send without RIGHTS with none", NO_RIGHTS_AT_4_TO_7,
                k -> k.send(6, 0, 8));
        check.refuses(Check.NOTHING_THERE, "send to NAMES with none", Check.NEW, k -> k.send(0, 0, 7));
        check.refuses(Check.NOTHING_THERE, "receive without RIGHTS into none", NO_RIGHTS_AT_4_TO_7,
                k -> k.receive(6, 8));
        check.refuses(Check.NOTHING_THERE, "receive from NAMES into none", Check.NEW, k -> k.receive(0, 8));
    }

    private static void kindsBeforeRights(Check check) {
        check.about("a capability is for the kind of object wanted: IllegalArgumentException");
        Check.Setup none = NO_RIGHTS_AT_4_TO_7;
        for (int at : new int[] {4, 6, 7}) {
            check.refuses(Check.ARGUMENT, "retype by " + at, none, k -> k.retype(at, 1, 4));
        }
        for (int at : new int[] {5, 7}) {
            check.refuses(Check.ARGUMENT, "send by " + at, none, k -> k.send(at, 0, -1));
            check.refuses(Check.ARGUMENT, "send by " + at + " with one", none, k -> k.send(at, 0, 3));
            check.refuses(Check.ARGUMENT, "call by " + at, none, k -> k.call(at, 0));
            check.refuses(Check.ARGUMENT, "receive by " + at, none, k -> k.receive(at, -1));
        }
        for (int at : new int[] {4, 5, 6}) {
            check.refuses(Check.ARGUMENT, "signal by " + at, none, k -> k.signal(at));
            check.refuses(Check.ARGUMENT, "await by " + at, none, k -> k.await(at));
        }
    }

    private static void kindsBeforeWhatElse(Check check) {
        check.about("a capability is for the kind of object wanted: IllegalArgumentException");
        check.refuses(Check.ARGUMENT, "mint of an UNTYPED into a full SLOT", Check.NEW, k -> k.mint(1, 2, 7, 1));
        check.refuses(Check.ARGUMENT, "mint of a TABLE into a full SLOT", TABLE_AT_4, k -> k.mint(4, 2, 7, 1));
        check.refuses(Check.ARGUMENT, "retype of an ENDPOINT into a full SLOT", Check.NEW, k -> k.retype(2, 1, 3));
        check.refuses(Check.ARGUMENT, "retype of a TABLE into a full SLOT", TABLE_AT_4, k -> k.retype(4, 1, 2));
        check.refuses(Check.ARGUMENT, "all kinds but ENDPOINTS: TABLE", TABLE_AT_4, k -> k.send(4, 0, -1));
        check.refuses(Check.ARGUMENT, "all kinds but ENDPOINTS: TABLE", TABLE_AT_4, k -> k.call(4, 0));
        check.refuses(Check.ARGUMENT, "all kinds but ENDPOINTS: TABLE", TABLE_AT_4, k -> k.receive(4, -1));
        check.refuses(Check.ARGUMENT, "all kinds but NOTIFICATIONS: TABLE", TABLE_AT_4, k -> k.signal(4));
        check.refuses(Check.ARGUMENT, "all kinds but NOTIFICATIONS: TABLE", TABLE_AT_4, k -> k.await(4));
    }

    private static void rightsBeforeWhatElse(Check check) {
        check.about("it has the RIGHTS wanted: UnsupportedOperationException");
        check.refuses(Check.RIGHTS, "retype into a full SLOT", NO_RIGHTS_AT_4_TO_7, k -> k.retype(5, 1, 2));
        check.refuses(Check.RIGHTS, "retype of what is USED up", k -> {
            k.retype(1, 0, 4);
            k.retype(4, 3, 5);
            k.copy(4, 6, 5);
        }, k -> k.retype(6, 3, 7));
        check.refuses(Check.RIGHTS, "send to NAMES without WRITE", NO_RIGHTS_AT_4_TO_7, k -> k.send(4, 0, -1));
        check.refuses(Check.RIGHTS, "send to NAMES without GRANT", Check.NEW, k -> k.send(0, 0, 2));
        check.refuses(Check.RIGHTS, "send to FILES without GRANT", k -> k.call(0, 104), k -> k.send(4, 0, 2));
        check.refuses(Check.RIGHTS, "receive from NAMES without READ", Check.NEW, k -> k.receive(0, -1));
        check.refuses(Check.RIGHTS, "receive from FILES without READ", k -> k.call(0, 104), k -> k.receive(4, -1));
    }

    private static void fromOutside(Check check) {
        check.about("All actions are those of the CURRENT thread");
        // What comes from outside is no action, and needs no CURRENT thread.
        CapKernel k = new CapKernel();
        allReceive(k);
        check.is("current()", 0, k.current());
        check.is("count(0)", 12, k.count(0));
        check.is("thread(1, 0)", 4, k.thread(1, 0));
        check.is("look(2, 1, 0)", 0, k.look(2, 1, 0));
        check.is("priority(3, 0)", 1, k.priority(3, 0));
        check.refuses(Check.ARGUMENT, "priority", Check.NONE_CURRENT, n -> n.priority(0, 0));
        check.refuses(Check.ARGUMENT, "thread", Check.NONE_CURRENT, n -> n.thread(0, 0));
        check.refuses(Check.ARGUMENT, "look", Check.NONE_CURRENT, n -> n.look(1, 72, 0));
        check.refuses(Check.NOTHING_THERE, "look", Check.NONE_CURRENT, n -> n.look(1, 8, 0));
    }
}
