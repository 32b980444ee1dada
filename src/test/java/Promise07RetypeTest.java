public final class Promise07RetypeTest {
    public static void main(String[] args) {
        Check check = new Check("promise 7, retype");
        makesEachKind(check);
        isDerivedFromTheOneUsed(check);
        intoATable(check);
        newObjectsAreNew(check);
        numbersGoOn(check);
        writeIsEnough(check);
        refusedNumbersAndSlots(check);
        refusedKinds(check);
        refusedRights(check);
        refusedStates(check);
        check.end();
    }

    private static void makesEachKind(Check check) {
        check.about("Of an UNTYPED (WRITE) a new object of a kind 0 .. 3 is made, a capability for it, with all RIGHTS,"
                + " DERIVED from that at from, is put at to");
        CapKernel k = new CapKernel();
        int[] used = {4, 5, 6, 10};
        for (int kind = 0; kind < 4; kind++) {
            check.is("retype to " + kind, kind + 1, k.retype(1, kind, 4 + kind));
            check.looks(k, 1, 4 + kind, kind, 7, 0, 0, 0);
            check.is("USED", used[kind], k.look(1, 1, 4));
        }
        check.is("CAME OF the UNTYPED", 4, k.look(1, 1, 3));
        check.is("objects made", 4, k.count(1));
        check.is("objects still there", 4, k.count(2));
        check.is("capabilities", 16, k.count(0));
    }

    private static void isDerivedFromTheOneUsed(Check check) {
        check.about("DERIVED from that at from");
        CapKernel k = new CapKernel();
        k.copy(1, 4, 2);
        k.retype(4, 1, 5);
        check.looks(k, 1, 5, 1, 7, 0, 0, 0);
        check.is("CAME OF the copy", 1, k.look(1, 4, 3));
        check.is("CAME OF the first", 2, k.look(1, 1, 3));
        check.is("taken back by the copy", 1, k.revoke(4));
        k.retype(1, 0, 5);
        k.retype(5, 1, 6);
        check.is("CAME OF the smaller UNTYPED", 1, k.look(1, 5, 3));
        check.is("CAME OF the greater UNTYPED", 3, k.look(1, 1, 3));
        check.is("USED of the greater", 4, k.look(1, 1, 4));
    }

    private static void intoATable(Check check) {
        check.about("is put at to");
        CapKernel k = new CapKernel();
        k.retype(1, 3, 7);
        check.is("into the TABLE", 2, k.retype(1, 3, Check.in(7, 7)));
        check.looks(k, 1, Check.in(7, 7), 3, 7, 0, 0, 0);
        check.is("by an UNTYPED that lies in it", 0, k.move(1, Check.in(7, 0)));
        check.is("retype", 3, k.retype(Check.in(7, 0), 1, Check.in(7, 1)));
        check.is("USED", 9, k.look(1, Check.in(7, 0), 4));
    }

    private static void newObjectsAreNew(Check check) {
        check.about("NOTIFICATION 2 (with BITS, an int, 0 at first), TABLE 3 (8 SLOTS)");
        CapKernel k = new CapKernel();
        k.signal(3);
        k.retype(1, 2, 4);
        check.is("BITS of a new one", 0, k.look(1, 4, 4));
        k.signal(4);
        check.is("BITS of the first", 1, k.look(1, 3, 4));
        k.retype(1, 3, 5);
        for (int slot = 0; slot < 8; slot++) {
            check.isEmptyAt(k, 1, Check.in(5, slot));
        }
        k.retype(1, 1, 6);
        k.pass();
        k.receive(2, -1);
        Check.passTo(k, 1);
        check.is("nobody receives at a new ENDPOINT", 1, k.send(6, 1, -1));
        check.is("who receives at the first", 4, k.thread(2, 0));
    }

    private static void numbersGoOn(Check check) {
        check.about("the object's number, 1, 2, .. as they are made");
        CapKernel k = new CapKernel();
        check.is("the first", 1, k.retype(1, 1, 4));
        k.delete(4);
        check.is("not used twice", 2, k.retype(1, 1, 4));
        k.pass();
        check.is("over all threads", 3, k.retype(1, 2, 4));
        check.is("objects made", 3, k.count(1));
        check.is("objects still there", 2, k.count(2));
        try {
            k.retype(1, 1, 4);
            check.tell("a full SLOT was taken");
        } catch (IllegalStateException refused) {
            check.is("a refused one takes no number", 4, k.retype(1, 1, 5));
        }
    }

    private static void writeIsEnough(Check check) {
        check.about("Of an UNTYPED (WRITE)");
        for (int rights = 0; rights <= 7; rights++) {
            int some = rights;
            Check.Setup setup = k -> k.copy(1, 4, some);
            if ((rights & 2) != 0) {
                check.takes("RIGHTS " + rights, setup, k -> k.retype(4, 1, 5));
            } else {
                check.refuses(Check.RIGHTS, "RIGHTS " + rights, setup, k -> k.retype(4, 1, 5));
            }
        }
    }

    private static void refusedNumbersAndSlots(Check check) {
        check.about("a new object of a kind 0 .. 3 is made");
        check.refuses(Check.STATE, "none is CURRENT", Check.NONE_CURRENT, k -> k.retype(1, 4, 4));
        for (int kind : new int[] {-1, 4, 5, Integer.MIN_VALUE, Integer.MAX_VALUE}) {
            check.refuses(Check.ARGUMENT, "kind " + kind, Check.NEW, k -> k.retype(1, kind, 4));
        }
        check.refuses(Check.ARGUMENT, "from -1", Check.NEW, k -> k.retype(-1, 1, 4));
        check.refuses(Check.ARGUMENT, "from 72", Check.NEW, k -> k.retype(72, 1, 4));
        check.refuses(Check.ARGUMENT, "to -1", Check.NEW, k -> k.retype(1, 1, -1));
        check.refuses(Check.ARGUMENT, "to 72", Check.NEW, k -> k.retype(1, 1, 72));
        check.refuses(Check.NOTHING_THERE, "an empty SLOT", Check.NEW, k -> k.retype(4, 1, 5));
        check.refuses(Check.NOTHING_THERE, "to no SLOT, of the wrong kind", Check.NEW, k -> k.retype(2, 1, 16));
    }

    private static void refusedKinds(Check check) {
        check.about("Of an UNTYPED");
        check.refuses(Check.ARGUMENT, "an ENDPOINT", Check.NEW, k -> k.retype(2, 1, 4));
        check.refuses(Check.ARGUMENT, "a NOTIFICATION", Check.NEW, k -> k.retype(3, 1, 4));
        check.refuses(Check.ARGUMENT, "a TABLE", k -> k.retype(1, 3, 4), k -> k.retype(4, 1, 5));
        check.refuses(Check.ARGUMENT, "NAMES into a full SLOT", Check.NEW, k -> k.retype(0, 1, 2));
    }

    private static void refusedRights(Check check) {
        check.about("Of an UNTYPED (WRITE)");
        check.refuses(Check.RIGHTS, "without WRITE", k -> k.copy(1, 4, 5), k -> k.retype(4, 1, 5));
        check.refuses(Check.RIGHTS, "without WRITE, a full SLOT", k -> k.copy(1, 4, 5), k -> k.retype(4, 1, 2));
    }

    private static void refusedStates(Check check) {
        check.about("(among it: a SLOT to be filled is empty)");
        check.refuses(Check.STATE, "a full SLOT", Check.NEW, k -> k.retype(1, 1, 2));
        check.refuses(Check.STATE, "its own SLOT", Check.NEW, k -> k.retype(1, 1, 1));
        check.about("It takes 4 (UNTYPED, SIZE 4; TABLE) or 1 of the SIZE that is not USED; there are at most 40 ever:"
                + " else IllegalStateException.");
        check.refuses(Check.STATE, "a TABLE of 3 of 4", k -> {
            k.retype(1, 0, 4);
            k.retype(4, 1, 5);
        }, k -> k.retype(4, 3, 6));
        check.refuses(Check.STATE, "an UNTYPED of 3 of 4", k -> {
            k.retype(1, 0, 4);
            k.retype(4, 2, 5);
        }, k -> k.retype(4, 0, 6));
        check.refuses(Check.STATE, "an ENDPOINT of 0 of 4", k -> {
            k.retype(1, 0, 4);
            k.retype(4, 3, 5);
        }, k -> k.retype(4, 1, 6));
        check.refuses(Check.STATE, "the 41st", Promise07RetypeTest::makeForty, k -> k.retype(1, 1, 4));
    }

    private static void makeForty(CapKernel k) {
        for (int i = 0; i < 40; i++) {
            k.retype(1, 1, 4);
            k.revoke(1);
        }
    }
}
