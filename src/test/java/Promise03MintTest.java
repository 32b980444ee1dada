public final class Promise03MintTest {
    public static void main(String[] args) {
        Check check = new Check("promise 3, mint");
        CapKernel k = new CapKernel();
        check.is("mint of an ENDPOINT", 6, k.mint(2, 4, 6, 255));
        check.is("BADGE", 255, k.look(1, 4, 2));
        check.is("RIGHTS", 6, k.look(1, 4, 1));
        check.is("kind", 1, k.look(1, 4, 0));
        check.is("CAME OF it", 1, k.look(1, 2, 3));
        check.is("mint of a NOTIFICATION", 3, k.mint(3, 5, 3, 1));
        check.is("BADGE", 1, k.look(1, 5, 2));
        check.is("the first keeps its own", 0, k.look(1, 3, 2));
        check.is("without the RIGHTS it lacks", 1, k.copy(2, 6, 1));
        check.is("mint(6, 7, 7, 9)", 1, k.mint(6, 7, 7, 9));
        check.is("capabilities", 16, k.count(0));
        refusals(check);
        check.end();
    }

    private static void refusals(Check check) {
        check.refuses(Check.STATE, "none is CURRENT", Check.NONE_CURRENT, k -> k.mint(2, 4, 7, 0));
        check.refuses(Check.ARGUMENT, "BADGE 0", Check.NEW, k -> k.mint(2, 4, 7, 0));
        check.refuses(Check.ARGUMENT, "BADGE 256", Check.NEW, k -> k.mint(2, 4, 7, 256));
        check.refuses(Check.ARGUMENT, "BADGE -1", Check.NEW, k -> k.mint(2, 4, 7, -1));
        check.refuses(Check.ARGUMENT, "rights 8", Check.NEW, k -> k.mint(2, 4, 8, 1));
        check.refuses(Check.ARGUMENT, "rights -1", Check.NEW, k -> k.mint(2, 4, -1, 1));
        check.refuses(Check.ARGUMENT, "from -1", Check.NEW, k -> k.mint(-1, 4, 7, 1));
        check.refuses(Check.ARGUMENT, "to 72", Check.NEW, k -> k.mint(2, 72, 7, 1));
        check.refuses(Check.NOTHING_THERE, "an empty SLOT", Check.NEW, k -> k.mint(4, 5, 7, 1));
        check.refuses(Check.NOTHING_THERE, "to no SLOT, of the wrong kind", Check.NEW, k -> k.mint(1, 16, 7, 1));
        check.refuses(Check.ARGUMENT, "an UNTYPED", Check.NEW, k -> k.mint(1, 4, 7, 1));
        check.refuses(Check.ARGUMENT, "an UNTYPED into a full SLOT", Check.NEW, k -> k.mint(1, 2, 7, 1));
        check.refuses(Check.ARGUMENT, "a TABLE", k -> k.retype(1, 3, 4), k -> k.mint(4, 5, 7, 1));
        check.refuses(Check.STATE, "one with a BADGE", k -> k.mint(2, 4, 7, 1), k -> k.mint(4, 5, 7, 2));
        check.refuses(Check.STATE, "NAMES, that has one", Check.NEW, k -> k.mint(0, 5, 7, 2));
        check.refuses(Check.STATE, "a full SLOT", Check.NEW, k -> k.mint(2, 3, 7, 1));
    }
}
