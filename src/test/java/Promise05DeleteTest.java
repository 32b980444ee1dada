public final class Promise05DeleteTest {
    public static void main(String[] args) {
        Check check = new Check("promise 5, delete");
        leavesDerivedToItsOrigin(check);
        takesTablesWithIt(check);
        tablesInTables(check);
        keepsWhatOthersHold(check);
        usedStays(check);
        refusals(check);
        check.end();
    }

    private static void leavesDerivedToItsOrigin(Check check) {
        CapKernel k = new CapKernel();
        k.copy(2, 4, 7);
        k.copy(4, 5, 7);
        k.copy(4, 6, 7);
        check.is("delete(4)", 1, k.delete(4));
        check.is("CAME OF the first", 2, k.look(1, 2, 3));
        check.is("capabilities", 14, k.count(0));
        check.is("delete(2), DERIVED from none", 1, k.delete(2));
        check.is("CAME OF one left", 0, k.look(1, 5, 3));
        check.is("revoke(5)", 0, k.revoke(5));
    }

    private static void takesTablesWithIt(Check check) {
        CapKernel k = new CapKernel();
        k.retype(1, 3, 4);
        k.retype(1, 1, 8 + 8 * 4);
        k.copy(8 + 8 * 4, 5, 7);
        k.copy(2, 8 + 8 * 4 + 7, 7);
        k.move(3, 8 + 8 * 4 + 3);
        check.is("a TABLE with three", 4, k.delete(4));
        check.is("capabilities", 12, k.count(0));
        check.is("the ENDPOINT has another", 1, k.count(2));
        check.is("that is DERIVED from the UNTYPED now", 1, k.look(1, 1, 3));
        check.is("its last", 1, k.delete(5));
        check.is("objects still there", 0, k.count(2));
        check.is("objects made", 2, k.count(1));
    }

    private static void tablesInTables(Check check) {
        CapKernel k = new CapKernel();
        k.retype(1, 3, 4);
        k.retype(1, 3, 5);
        k.retype(1, 3, 6);
        k.retype(1, 1, 8 + 8 * 6);
        k.move(6, 8 + 8 * 5);
        k.move(5, 8 + 8 * 4);
        check.is("TABLES in TABLES", 4, k.delete(4));
        check.is("objects still there", 0, k.count(2));
        check.is("capabilities", 12, k.count(0));
        k = new CapKernel();
        k.retype(1, 0, 4);
        k.retype(4, 1, 5);
        check.is("an UNTYPED does not take what was made of it", 1, k.delete(4));
        check.is("objects still there", 1, k.count(2));
        k.retype(1, 3, 4);
        k.retype(1, 3, 6);
        k.copy(4, 8 + 8 * 6, 7);
        k.move(6, 8 + 8 * 4);
        check.is("two TABLES that hold one another", 1, k.delete(4));
        check.is("are still there", 3, k.count(2));
        check.is("all of it", 3, k.revoke(1));
        check.is("objects still there", 0, k.count(2));
    }

    private static void keepsWhatOthersHold(Check check) {
        CapKernel k = new CapKernel();
        k.delete(2);
        k.delete(3);
        check.is("delete of NAMES", 1, k.delete(0));
        check.is("delete of an UNTYPED", 1, k.delete(1));
        check.is("capabilities", 8, k.count(0));
        k.pass();
        check.is("NAMES serves the others", 2, k.call(0, 105));
        check.is("with a capability for FILES", 2, k.call(5, 300));
        check.is("delete of FILES", 1, k.delete(5));
        check.is("NAMES gives it again", 2, k.call(0, 105));
        k.call(5, 200 + 0);
        check.is("the ENDPOINT of the others", 1, k.send(2, 4, -1));
        check.is("current()", 3, k.current());
        check.is("receive", 0, k.receive(2, -1));
    }

    private static void usedStays(Check check) {
        CapKernel k = new CapKernel();
        k.retype(1, 3, 4);
        k.delete(4);
        check.is("USED stays after delete", 4, k.look(1, 1, 4));
    }

    private static void refusals(Check check) {
        check.refuses(Check.STATE, "none is CURRENT", Check.NONE_CURRENT, k -> k.delete(-1));
        check.refuses(Check.ARGUMENT, "delete(-1)", Check.NEW, k -> k.delete(-1));
        check.refuses(Check.ARGUMENT, "delete(72)", Check.NEW, k -> k.delete(72));
        check.refuses(Check.NOTHING_THERE, "delete(4)", Check.NEW, k -> k.delete(4));
        check.refuses(Check.NOTHING_THERE, "delete(8)", Check.NEW, k -> k.delete(8));
    }
}
