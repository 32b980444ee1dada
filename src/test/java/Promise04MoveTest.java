public final class Promise04MoveTest {
    public static void main(String[] args) {
        Check check = new Check("promise 4, move");
        staysWhatItIs(check);
        keepsItsAge(check);
        goesBetweenTables(check);
        refusals(check);
        check.end();
    }

    private static void staysWhatItIs(Check check) {
        CapKernel k = new CapKernel();
        k.mint(2, 4, 5, 33);
        k.copy(4, 5, 1);
        check.is("move(4, 7)", 0, k.move(4, 7));
        if (!Check.isEmpty(k, 1, 4)) {
            check.tell("it is still at 4");
        }
        int[] due = {1, 5, 33, 1, 0};
        for (int what = 0; what < due.length; what++) {
            check.is("look(1, 7, " + what + ")", due[what], k.look(1, 7, what));
        }
        check.is("still DERIVED from the first", 2, k.look(1, 2, 3));
        check.is("capabilities", 14, k.count(0));
        check.is("revoke reaches it there", 2, k.revoke(2));
    }

    private static void keepsItsAge(Check check) {
        CapKernel k = new CapKernel();
        k.retype(1, 3, 4);
        k.retype(1, 1, 5);
        k.move(4, 6);
        k.move(1, 8 + 8 * 6);
        // Had the TABLE become the youngest by being moved, it would take the UNTYPED with it first.
        check.is("revoke of the UNTYPED in its own TABLE", 3, k.revoke(8 + 8 * 6));
        check.is("objects", 0, k.count(2));
    }

    private static void goesBetweenTables(Check check) {
        CapKernel k = new CapKernel();
        k.retype(1, 3, 4);
        k.retype(1, 3, 5);
        check.is("a TABLE into another", 0, k.move(5, 8 + 8 * 4 + 2));
        check.is("kind there", 3, k.look(1, 8 + 8 * 4 + 2, 0));
        check.is("and back", 0, k.move(8 + 8 * 4 + 2, 5));
        check.is("within a TABLE", 0, k.move(3, 8 + 8 * 5));
        check.is("within a TABLE", 0, k.move(8 + 8 * 5, 8 + 8 * 5 + 7));
        check.is("kind there", 2, k.look(1, 8 + 8 * 5 + 7, 0));
        check.is("objects", 2, k.count(2));
    }

    private static void refusals(Check check) {
        check.refuses(Check.STATE, "none is CURRENT", Check.NONE_CURRENT, k -> k.move(-1, 4));
        check.refuses(Check.ARGUMENT, "from -1", Check.NEW, k -> k.move(-1, 4));
        check.refuses(Check.ARGUMENT, "to 72", Check.NEW, k -> k.move(2, 72));
        check.refuses(Check.NOTHING_THERE, "an empty SLOT", Check.NEW, k -> k.move(4, 5));
        check.refuses(Check.NOTHING_THERE, "to no SLOT", Check.NEW, k -> k.move(2, 40));
        check.refuses(Check.STATE, "a full SLOT", Check.NEW, k -> k.move(2, 3));
        check.refuses(Check.STATE, "onto itself", Check.NEW, k -> k.move(2, 2));
        check.refuses(Check.STATE, "a TABLE into itself", k -> k.retype(1, 3, 4), k -> k.move(4, 8 + 8 * 4));
        check.refuses(Check.STATE, "a TABLE into itself by a copy's way", k -> {
            k.retype(1, 3, 4);
            k.copy(4, 5, 7);
        }, k -> k.move(5, 8 + 8 * 4 + 1));
    }
}
