public final class Promise05DeleteTest {
    public static void main(String[] args) {
        Check check = new Check("promise 5, delete");
        oneAlone(check);
        leavesDerivedToItsOrigin(check);
        takesTablesWithIt(check);
        tablesInTables(check);
        untypedsTakeNothing(check);
        tablesThatHoldOneAnother(check);
        keepsWhatOthersHold(check);
        usedStays(check);
        refusals(check);
        check.end();
    }

    private static void oneAlone(Check check) {
        check.about("The capability is gone: how many capabilities are gone by that in all.");
        CapKernel k = new CapKernel();
        for (int slot = 0; slot < 4; slot++) {
            check.is("delete(" + slot + ")", 1, k.delete(slot));
            check.isEmptyAt(k, 1, slot);
            check.is("capabilities", 11 - slot, k.count(0));
        }
        k.pass();
        k.copy(2, 4, 0);
        check.is("one without RIGHTS", 1, k.delete(4));
    }

    private static void leavesDerivedToItsOrigin(Check check) {
        check.about("The capability is gone");
        CapKernel k = new CapKernel();
        k.copy(2, 4, 7);
        k.copy(4, 5, 7);
        k.copy(4, 6, 7);
        check.is("what CAME OF it stays", 1, k.delete(4));
        check.is("CAME OF the first", 2, k.look(1, 2, 3));
        check.is("capabilities", 14, k.count(0));
        check.is("delete(2), DERIVED from none", 1, k.delete(2));
        check.is("CAME OF one left", 0, k.look(1, 5, 3));
        check.is("revoke(5)", 0, k.revoke(5));
    }

    private static void takesTablesWithIt(Check check) {
        check.about("how many capabilities are gone by that in all");
        CapKernel k = new CapKernel();
        k.retype(1, 3, 4);
        check.is("an empty TABLE", 1, k.delete(4));
        k.retype(1, 3, 4);
        k.retype(1, 1, Check.in(4, 0));
        k.copy(Check.in(4, 0), 5, 7);
        k.copy(2, Check.in(4, 7), 7);
        k.move(3, Check.in(4, 3));
        check.is("a TABLE with three", 4, k.delete(4));
        check.is("capabilities", 12, k.count(0));
        check.is("the ENDPOINT has another", 1, k.count(2));
        check.is("that is DERIVED from the UNTYPED now", 1, k.look(1, 1, 3));
        check.is("its last", 1, k.delete(5));
        check.is("objects still there", 0, k.count(2));
        check.is("objects made", 3, k.count(1));
        k = new CapKernel();
        k.retype(1, 3, 4);
        for (int slot = 0; slot < 8; slot++) {
            k.copy(0, Check.in(4, slot), 7);
        }
        check.is("a full TABLE", 9, k.delete(4));
        check.is("nothing CAME OF it any more", 0, k.look(1, 0, 3));
    }

    private static void tablesInTables(Check check) {
        check.about("how many capabilities are gone by that in all");
        CapKernel k = new CapKernel();
        k.retype(1, 3, 4);
        k.retype(1, 3, 5);
        k.retype(1, 3, 6);
        k.retype(1, 1, Check.in(6, 0));
        k.move(6, Check.in(5, 0));
        k.move(5, Check.in(4, 0));
        check.is("TABLES in TABLES", 4, k.delete(4));
        check.is("objects still there", 0, k.count(2));
        check.is("capabilities", 12, k.count(0));
        k = new CapKernel();
        k.retype(1, 3, 4);
        k.retype(1, 3, 5);
        k.copy(2, Check.in(5, 0), 7);
        k.copy(5, Check.in(4, 0), 7);
        check.is("a TABLE in it that has another capability", 2, k.delete(4));
        check.looks(k, 1, Check.in(5, 0), 1, 7, 0, 0, 0);
    }

    private static void untypedsTakeNothing(Check check) {
        check.about("The capability is gone");
        CapKernel k = new CapKernel();
        k.retype(1, 0, 4);
        k.retype(4, 1, 5);
        check.is("an UNTYPED does not take what was made of it", 1, k.delete(4));
        check.is("objects still there", 1, k.count(2));
        check.is("which CAME OF the greater one now", 1, k.look(1, 1, 3));
        check.is("the greater one", 1, k.delete(1));
        check.looks(k, 1, 5, 1, 7, 0, 0, 0);
    }

    private static void tablesThatHoldOneAnother(Check check) {
        check.about("An object is gone when the last capability for it is");
        CapKernel k = new CapKernel();
        k.retype(1, 3, 4);
        k.retype(1, 3, 6);
        k.copy(4, Check.in(6, 0), 7);
        k.move(6, Check.in(4, 0));
        check.is("two TABLES that hold one another", 1, k.delete(4));
        check.is("are still there", 2, k.count(2));
        check.is("all of it", 2, k.revoke(1));
        check.is("objects still there", 0, k.count(2));
    }

    private static void keepsWhatOthersHold(Check check) {
        check.about("An object is gone when the last capability for it is");
        CapKernel k = new CapKernel();
        for (int slot = 0; slot < 4; slot++) {
            k.delete(slot);
        }
        k.pass();
        check.is("NAMES serves the others", 2, k.call(0, 105));
        check.is("with a capability for FILES", 2, k.call(5, 300));
        check.is("delete of FILES", 1, k.delete(5));
        check.is("NAMES gives it again", 2, k.call(0, 105));
        check.is("the ENDPOINT of the others", 1, k.send(2, 4, -1));
        check.is("current()", 3, k.current());
        check.is("receive", 0, k.receive(2, -1));
    }

    private static void usedStays(Check check) {
        check.about("Of an UNTYPED with no objects left that were made of it: USED is 0 then.");
        // Told of revoke alone.
        CapKernel k = new CapKernel();
        k.retype(1, 3, 4);
        k.delete(4);
        check.is("USED stays after delete", 4, k.look(1, 1, 4));
    }

    private static void refusals(Check check) {
        check.about("ADDRESSES lead to a SLOT, those of capabilities to one that has one");
        check.refuses(Check.STATE, "none is CURRENT", Check.NONE_CURRENT, k -> k.delete(-1));
        check.refuses(Check.ARGUMENT, "delete(-1)", Check.NEW, k -> k.delete(-1));
        check.refuses(Check.ARGUMENT, "delete(72)", Check.NEW, k -> k.delete(72));
        check.refuses(Check.NOTHING_THERE, "delete(4)", Check.NEW, k -> k.delete(4));
        check.refuses(Check.NOTHING_THERE, "delete(8)", Check.NEW, k -> k.delete(8));
        check.refuses(Check.NOTHING_THERE, "twice", k -> k.delete(3), k -> k.delete(3));
    }
}
