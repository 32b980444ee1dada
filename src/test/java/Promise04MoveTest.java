public final class Promise04MoveTest {
    public static void main(String[] args) {
        Check check = new Check("promise 4, move");
        staysWhatItIs(check);
        keepsItsAge(check);
        goesBetweenTables(check);
        takesItsTableAlong(check);
        aTableIntoItself(check);
        aTableIntoOneThatItHolds(check);
        refusedNumbersAndSlots(check);
        refusedFullSlots(check);
        check.end();
    }

    private static void staysWhatItIs(Check check) {
        check.about("The capability at from goes to the SLOT at to, staying what it is: 0.");
        CapKernel k = new CapKernel();
        k.mint(2, 4, 5, 33);
        k.copy(4, 5, 1);
        check.is("move(4, 7)", 0, k.move(4, 7));
        check.isEmptyAt(k, 1, 4);
        check.looks(k, 1, 7, 1, 5, 33, 1, 0);
        check.is("still DERIVED from the first", 2, k.look(1, 2, 3));
        check.is("capabilities", 14, k.count(0));
        check.is("revoke reaches it there", 2, k.revoke(2));
        check.is("what others are DERIVED from", 0, k.move(3, 4));
        k.copy(4, 5, 7);
        check.is("and back", 0, k.move(4, 3));
        check.is("it stays that", 1, k.revoke(3));
        check.is("without RIGHTS", 0, k.copy(3, 5, 0));
        check.is("it may be moved too", 0, k.move(5, 6));
        check.looks(k, 1, 6, 2, 0, 0, 0, 0);
    }

    private static void keepsItsAge(Check check) {
        check.about("staying what it is");
        CapKernel k = new CapKernel();
        k.retype(1, 3, 4);
        k.retype(1, 1, 5);
        k.move(4, 6);
        k.move(1, Check.in(6, 0));
        // Had the TABLE become the youngest by being moved, it would take the UNTYPED with it first.
        check.is("revoke of the UNTYPED in its own TABLE", 3, k.revoke(Check.in(6, 0)));
        check.is("objects", 0, k.count(2));
    }

    private static void goesBetweenTables(Check check) {
        check.about("The capability at from goes to the SLOT at to");
        CapKernel k = new CapKernel();
        k.retype(1, 3, 4);
        k.retype(1, 3, 5);
        check.is("a TABLE into another", 0, k.move(5, Check.in(4, 2)));
        check.is("kind there", 3, k.look(1, Check.in(4, 2), 0));
        check.is("and back", 0, k.move(Check.in(4, 2), 5));
        check.is("into a TABLE", 0, k.move(3, Check.in(5, 0)));
        check.is("within a TABLE", 0, k.move(Check.in(5, 0), Check.in(5, 7)));
        check.isEmptyAt(k, 1, Check.in(5, 0));
        check.looks(k, 1, Check.in(5, 7), 2, 7, 0, 0, 0);
        check.is("objects", 2, k.count(2));
        check.is("a server's", 0, k.move(0, Check.in(5, 1)));
        check.is("it serves there", 2, k.call(Check.in(5, 1), 107));
    }

    private static void takesItsTableAlong(Check check) {
        check.about("8 + 8 * i + j is SLOT j of the TABLE for which SLOT i of the ROOT has a capability");
        CapKernel k = new CapKernel();
        k.retype(1, 3, 4);
        k.copy(3, Check.in(4, 5), 1);
        check.is("the TABLE's capability", 0, k.move(4, 7));
        check.isEmptyAt(k, 1, Check.in(4, 5));
        check.looks(k, 1, Check.in(7, 5), 2, 1, 0, 0, 0);
    }

    private static void aTableIntoItself(Check check) {
        check.about("A TABLE's capability may not go into that TABLE itself: IllegalStateException.");
        for (int slot = 0; slot < 8; slot++) {
            int to = Check.in(4, slot);
            check.refuses(Check.STATE, "SLOT " + slot, k -> k.retype(1, 3, 4), k -> k.move(4, to));
        }
        check.refuses(Check.STATE, "a copy, by the first one's way", k -> {
            k.retype(1, 3, 4);
            k.copy(4, 5, 7);
        }, k -> k.move(5, Check.in(4, 1)));
        check.refuses(Check.STATE, "the first, by a copy's way", k -> {
            k.retype(1, 3, 4);
            k.copy(4, 5, 0);
        }, k -> k.move(4, Check.in(5, 1)));
        check.refuses(Check.STATE, "a copy that lies in it already", k -> {
            k.retype(1, 3, 4);
            k.copy(4, Check.in(4, 0), 7);
        }, k -> k.move(Check.in(4, 0), Check.in(4, 1)));
        CapKernel k = new CapKernel();
        k.retype(1, 3, 4);
        k.copy(4, Check.in(4, 0), 7);
        check.is("out of it", 0, k.move(Check.in(4, 0), 5));
    }

    private static void aTableIntoOneThatItHolds(Check check) {
        check.about("A TABLE's capability may not go into that TABLE itself");
        // Only into itself: a TABLE that it holds is another one.
        CapKernel k = new CapKernel();
        k.retype(1, 3, 4);
        k.retype(1, 3, 5);
        k.copy(5, Check.in(4, 0), 7);
        check.is("into one that it holds", 0, k.move(4, Check.in(5, 0)));
        check.is("both are there", 2, k.count(2));
        check.is("the last way is gone", 1, k.delete(5));
        check.is("they hold one another", 2, k.count(2));
    }

    private static void refusedNumbersAndSlots(Check check) {
        check.about("ADDRESSES lead to a SLOT, those of capabilities to one that has one");
        check.refuses(Check.STATE, "none is CURRENT", Check.NONE_CURRENT, k -> k.move(-1, 4));
        check.refuses(Check.ARGUMENT, "from -1", Check.NEW, k -> k.move(-1, 4));
        check.refuses(Check.ARGUMENT, "from 72", Check.NEW, k -> k.move(72, 4));
        check.refuses(Check.ARGUMENT, "to -1", Check.NEW, k -> k.move(2, -1));
        check.refuses(Check.ARGUMENT, "to 72", Check.NEW, k -> k.move(2, 72));
        check.refuses(Check.NOTHING_THERE, "an empty SLOT", Check.NEW, k -> k.move(4, 5));
        check.refuses(Check.NOTHING_THERE, "an empty SLOT onto itself", Check.NEW, k -> k.move(4, 4));
        check.refuses(Check.NOTHING_THERE, "to no SLOT", Check.NEW, k -> k.move(2, 40));
    }

    private static void refusedFullSlots(Check check) {
        check.about("(among it: a SLOT to be filled is empty)");
        check.refuses(Check.STATE, "a full SLOT", Check.NEW, k -> k.move(2, 3));
        check.refuses(Check.STATE, "onto itself", Check.NEW, k -> k.move(2, 2));
        check.refuses(Check.STATE, "a full SLOT of a TABLE", k -> {
            k.retype(1, 3, 4);
            k.copy(3, Check.in(4, 0), 7);
        }, k -> k.move(2, Check.in(4, 0)));
    }
}
