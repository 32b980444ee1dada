public final class Promise02CopyTest {
    public static void main(String[] args) {
        Check check = new Check("promise 2, copy");
        eachSumOfRights(check);
        isDerived(check);
        keepsBadge(check);
        ofEachKind(check);
        throughTables(check);
        refusedNumbers(check);
        refusedSlots(check);
        refusedFullSlots(check);
        check.end();
    }

    private static void eachSumOfRights(Check check) {
        check.about("with those of its RIGHTS that are in rights (0 .. 7)");
        for (int first = 0; first <= 7; first++) {
            for (int second = 0; second <= 7; second++) {
                CapKernel k = new CapKernel();
                check.is("copy(2, 4, " + first + ")", first, k.copy(2, 4, first));
                check.is("copy(4, 5, " + second + ")", first & second, k.copy(4, 5, second));
                check.looks(k, 1, 4, 1, first, 0, 1, 0);
                check.looks(k, 1, 5, 1, first & second, 0, 0, 0);
                check.looks(k, 1, 2, 1, 7, 0, 2, 0);
            }
        }
    }

    private static void isDerived(Check check) {
        check.about("A copy of the capability at from, DERIVED from it");
        CapKernel k = new CapKernel();
        k.copy(2, 4, 7);
        k.copy(4, 5, 7);
        k.copy(4, 6, 7);
        k.copy(2, 7, 7);
        check.is("CAME OF the first", 4, k.look(1, 2, 3));
        check.is("CAME OF the copy", 2, k.look(1, 4, 3));
        check.is("CAME OF a copy's copy", 0, k.look(1, 5, 3));
        check.is("CAME OF another's for the same object", 0, k.look(2, 2, 3));
        check.is("capabilities", 16, k.count(0));
        check.is("taken back with all that came of it", 2, k.revoke(4));
        check.is("the copy itself and the other one stay", 2, k.look(1, 2, 3));
    }

    private static void keepsBadge(Check check) {
        check.about("and its BADGE, is put into the SLOT at to");
        CapKernel k = new CapKernel();
        k.mint(2, 4, 7, 255);
        check.is("copy of a marked one", 7, k.copy(4, 5, 7));
        check.is("its BADGE", 255, k.look(1, 5, 2));
        check.is("copy of the one for NAMES", 2, k.copy(0, 6, 7));
        check.is("its BADGE", 1, k.look(1, 6, 2));
        check.is("it is for NAMES", 2, k.call(6, 107));
        check.is("copy of one without a BADGE", 0, copyOfBadgeNone());
    }

    private static int copyOfBadgeNone() {
        CapKernel k = new CapKernel();
        k.copy(3, 4, 7);
        return k.look(1, 4, 2);
    }

    private static void ofEachKind(Check check) {
        check.about("A copy of the capability at from");
        for (int kind = 0; kind <= 3; kind++) {
            CapKernel k = new CapKernel();
            k.retype(1, kind, 4);
            check.is("copy, kind " + kind, 7, k.copy(4, 5, 7));
            check.looks(k, 1, 5, kind, 7, 0, 0, 0);
            check.is("objects made", 1, k.count(1));
        }
        CapKernel k = new CapKernel();
        k.copy(1, 4, 7);
        k.retype(4, 3, 5);
        check.is("USED is the object's, not the copy's", 4, k.look(1, 1, 4));
        k.copy(3, 6, 2);
        k.signal(6);
        check.is("BITS are the object's, not the copy's", 1, k.look(1, 3, 4));
    }

    private static void throughTables(Check check) {
        check.about("is put into the SLOT at to");
        CapKernel k = new CapKernel();
        k.retype(1, 3, 5);
        check.is("into a TABLE", 3, k.copy(3, Check.in(5, 0), 3));
        check.is("within a TABLE", 1, k.copy(Check.in(5, 0), Check.in(5, 7), 1));
        check.is("out of a TABLE", 1, k.copy(Check.in(5, 7), 7, 7));
        check.is("a TABLE's into that TABLE, which only move refuses", 7, k.copy(5, Check.in(5, 3), 7));
        check.is("a copy for the TABLE leads there too", 6, k.copy(5, 6, 6));
        check.is("by the other way", 2, k.look(1, Check.in(6, 7), 0));
        check.is("capabilities", 18, k.count(0));
    }

    private static void refusedNumbers(Check check) {
        check.about("numbers in their range");
        check.refuses(Check.ARGUMENT, "rights -1", Check.NEW, k -> k.copy(2, 4, -1));
        check.refuses(Check.ARGUMENT, "rights 8", Check.NEW, k -> k.copy(2, 4, 8));
        check.refuses(Check.ARGUMENT, "rights 15", Check.NEW, k -> k.copy(2, 4, 15));
        check.refuses(Check.ARGUMENT, "rights MIN", Check.NEW, k -> k.copy(2, 4, Integer.MIN_VALUE));
        check.refuses(Check.ARGUMENT, "rights MAX", Check.NEW, k -> k.copy(2, 4, Integer.MAX_VALUE));
        check.refuses(Check.ARGUMENT, "copy(-1, 4, 7)", Check.NEW, k -> k.copy(-1, 4, 7));
        check.refuses(Check.ARGUMENT, "copy(72, 4, 7)", Check.NEW, k -> k.copy(72, 4, 7));
        check.refuses(Check.ARGUMENT, "copy(2, -1, 7)", Check.NEW, k -> k.copy(2, -1, 7));
        check.refuses(Check.ARGUMENT, "copy(2, 72, 7)", Check.NEW, k -> k.copy(2, 72, 7));
        check.refuses(Check.ARGUMENT, "far off", Check.NEW, k -> k.copy(Integer.MIN_VALUE, Integer.MAX_VALUE, 7));
    }

    private static void refusedSlots(Check check) {
        check.about("ADDRESSES lead to a SLOT, those of capabilities to one that has one");
        check.refuses(Check.STATE, "none is CURRENT, even with wrong numbers", Check.NONE_CURRENT,
                k -> k.copy(-1, 4, 7));
        check.refuses(Check.NOTHING_THERE, "an empty SLOT", Check.NEW, k -> k.copy(4, 5, 7));
        check.refuses(Check.NOTHING_THERE, "from no SLOT", Check.NEW, k -> k.copy(71, 5, 7));
        check.refuses(Check.NOTHING_THERE, "to no SLOT", Check.NEW, k -> k.copy(2, 8, 7));
        check.refuses(Check.NOTHING_THERE, "an empty SLOT before a full one", Check.NEW, k -> k.copy(4, 3, 7));
    }

    private static void refusedFullSlots(Check check) {
        check.about("(among it: a SLOT to be filled is empty)");
        for (int slot = 0; slot < 4; slot++) {
            int to = slot;
            check.refuses(Check.STATE, "full SLOT " + slot, Check.NEW, k -> k.copy(2, to, 7));
            check.refuses(Check.STATE, "onto itself, " + slot, Check.NEW, k -> k.copy(to, to, 0));
        }
        check.refuses(Check.STATE, "a full SLOT of a TABLE", k -> {
            k.retype(1, 3, 4);
            k.copy(3, Check.in(4, 7), 7);
        }, k -> k.copy(2, Check.in(4, 7), 7));
    }
}
