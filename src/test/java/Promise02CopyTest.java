public final class Promise02CopyTest {
    public static void main(String[] args) {
        Check check = new Check("promise 2, copy");
        CapKernel k = new CapKernel();
        check.is("copy(2, 4, 5)", 5, k.copy(2, 4, 5));
        check.is("kind", 1, k.look(1, 4, 0));
        check.is("RIGHTS", 5, k.look(1, 4, 1));
        check.is("no RIGHTS that it has not: copy(4, 5, 7)", 5, k.copy(4, 5, 7));
        check.is("those in both: copy(4, 6, 3)", 1, k.copy(4, 6, 3));
        check.is("none: copy(4, 7, 0)", 0, k.copy(4, 7, 0));
        check.is("CAME OF the first", 4, k.look(1, 2, 3));
        check.is("CAME OF the copy", 3, k.look(1, 4, 3));
        check.is("CAME OF a copy's copy", 0, k.look(1, 5, 3));
        check.is("capabilities", 16, k.count(0));
        keepsBadge(check);
        copiesOthers(check);
        refusals(check);
        check.end();
    }

    private static void keepsBadge(Check check) {
        CapKernel k = new CapKernel();
        k.mint(2, 4, 7, 77);
        check.is("copy of a marked one", 7, k.copy(4, 5, 7));
        check.is("its BADGE", 77, k.look(1, 5, 2));
        check.is("copy of the one for NAMES", 2, k.copy(0, 6, 7));
        check.is("its BADGE", 1, k.look(1, 6, 2));
        check.is("it is for NAMES", 2, k.call(6, 107));
    }

    private static void copiesOthers(Check check) {
        CapKernel k = new CapKernel();
        check.is("copy of an UNTYPED", 7, k.copy(1, 4, 7));
        k.retype(4, 3, 5);
        check.is("USED is the object's", 4, k.look(1, 1, 4));
        check.is("into a TABLE", 3, k.copy(3, 8 + 8 * 5, 3));
        check.is("from a TABLE", 1, k.copy(8 + 8 * 5, 8 + 8 * 5 + 7, 1));
        check.is("a TABLE into itself", 7, k.copy(5, 8 + 8 * 5 + 3, 7));
        check.is("a copy for the TABLE leads there too", 6, k.copy(5, 6, 6));
        check.is("by the other way", 2, k.look(1, 8 + 8 * 6 + 7, 0));
    }

    private static void refusals(Check check) {
        check.refuses(Check.STATE, "none is CURRENT, even with wrong numbers", Check.NONE_CURRENT, k -> k.copy(-1, 4, 7));
        check.refuses(Check.ARGUMENT, "copy(-1, 4, 7)", Check.NEW, k -> k.copy(-1, 4, 7));
        check.refuses(Check.ARGUMENT, "copy(72, 4, 7)", Check.NEW, k -> k.copy(72, 4, 7));
        check.refuses(Check.ARGUMENT, "copy(2, -1, 7)", Check.NEW, k -> k.copy(2, -1, 7));
        check.refuses(Check.ARGUMENT, "copy(2, 72, 7)", Check.NEW, k -> k.copy(2, 72, 7));
        check.refuses(Check.ARGUMENT, "copy(2, 4, -1)", Check.NEW, k -> k.copy(2, 4, -1));
        check.refuses(Check.ARGUMENT, "copy(2, 4, 8)", Check.NEW, k -> k.copy(2, 4, 8));
        check.refuses(Check.ARGUMENT, "numbers before SLOTS", Check.NEW, k -> k.copy(5, 4, 8));
        check.refuses(Check.ARGUMENT, "far off", Check.NEW, k -> k.copy(Integer.MIN_VALUE, Integer.MAX_VALUE, 7));
        check.refuses(Check.NOTHING_THERE, "an empty SLOT", Check.NEW, k -> k.copy(4, 5, 7));
        check.refuses(Check.NOTHING_THERE, "from no SLOT", Check.NEW, k -> k.copy(71, 5, 7));
        check.refuses(Check.NOTHING_THERE, "to no SLOT", Check.NEW, k -> k.copy(2, 8, 7));
        check.refuses(Check.NOTHING_THERE, "an empty SLOT before a full one", Check.NEW, k -> k.copy(4, 3, 7));
        check.refuses(Check.STATE, "a full SLOT", Check.NEW, k -> k.copy(2, 3, 7));
        check.refuses(Check.STATE, "onto itself", Check.NEW, k -> k.copy(2, 2, 7));
    }
}
