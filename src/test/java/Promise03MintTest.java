public final class Promise03MintTest {
    public static void main(String[] args) {
        Check check = new Check("promise 3, mint");
        eachBadge(check);
        eachSumOfRights(check);
        ofBothKinds(check);
        refusedBadges(check);
        refusedKinds(check);
        refusedMarked(check);
        refusedAsCopy(check);
        check.end();
    }

    private static void eachBadge(Check check) {
        check.about("As copy, with a BADGE 1 .. 255");
        CapKernel k = new CapKernel();
        for (int badge : new int[] {1, 2, 127, 128, 254, 255}) {
            check.is("mint", 7, k.mint(2, 4, 7, badge));
            check.looks(k, 1, 4, 1, 7, badge, 0, 0);
            check.is("the first keeps its own", 0, k.look(1, 2, 2));
            k.delete(4);
        }
    }

    private static void eachSumOfRights(Check check) {
        check.about("with those of its RIGHTS that are in rights (0 .. 7)");
        for (int first = 0; first <= 7; first++) {
            for (int second = 0; second <= 7; second++) {
                CapKernel k = new CapKernel();
                k.copy(2, 4, first);
                check.is("mint(4, 5, " + second + ", 9)", first & second, k.mint(4, 5, second, 9));
                check.looks(k, 1, 5, 1, first & second, 9, 0, 0);
                check.looks(k, 1, 4, 1, first, 0, 1, 0);
            }
        }
    }

    private static void ofBothKinds(Check check) {
        check.about("of a capability for an ENDPOINT or NOTIFICATION, with BADGE 0");
        CapKernel k = new CapKernel();
        check.is("of an ENDPOINT", 6, k.mint(2, 4, 6, 255));
        check.looks(k, 1, 4, 1, 6, 255, 0, 0);
        check.is("of a NOTIFICATION", 3, k.mint(3, 5, 3, 1));
        check.looks(k, 1, 5, 2, 3, 1, 0, 0);
        check.is("CAME OF the ENDPOINT's", 1, k.look(1, 2, 3));
        check.is("CAME OF the NOTIFICATION's", 1, k.look(1, 3, 3));
        check.is("capabilities", 14, k.count(0));
        k.retype(1, 3, 6);
        check.is("into a TABLE", 7, k.mint(2, Check.in(6, 7), 7, 77));
        check.looks(k, 1, Check.in(6, 7), 1, 7, 77, 0, 0);
        check.is("a marked one may be copied", 7, k.copy(Check.in(6, 7), 7, 7));
        check.is("taken back with what came of it", 3, k.revoke(2));
    }

    private static void refusedBadges(Check check) {
        check.about("As copy, with a BADGE 1 .. 255");
        for (int badge : new int[] {0, 256, 257, -1, -255, Integer.MIN_VALUE, Integer.MAX_VALUE}) {
            check.refuses(Check.ARGUMENT, "BADGE " + badge, Check.NEW, k -> k.mint(2, 4, 7, badge));
        }
    }

    private static void refusedKinds(Check check) {
        check.about("of a capability for an ENDPOINT or NOTIFICATION");
        check.refuses(Check.ARGUMENT, "an UNTYPED", Check.NEW, k -> k.mint(1, 4, 7, 1));
        check.refuses(Check.ARGUMENT, "an UNTYPED into a full SLOT", Check.NEW, k -> k.mint(1, 2, 7, 1));
        check.refuses(Check.ARGUMENT, "a TABLE", k -> k.retype(1, 3, 4), k -> k.mint(4, 5, 7, 1));
    }

    private static void refusedMarked(Check check) {
        check.about("with BADGE 0 (else IllegalStateException)");
        check.refuses(Check.STATE, "an ENDPOINT's with 1", k -> k.mint(2, 4, 7, 1), k -> k.mint(4, 5, 7, 2));
        check.refuses(Check.STATE, "the same again", k -> k.mint(2, 4, 7, 255), k -> k.mint(4, 5, 7, 255));
        check.refuses(Check.STATE, "a NOTIFICATION's", k -> k.mint(3, 4, 7, 9), k -> k.mint(4, 5, 7, 2));
        check.refuses(Check.STATE, "a copy of a marked one", k -> {
            k.mint(2, 4, 7, 1);
            k.copy(4, 6, 7);
        }, k -> k.mint(6, 5, 7, 2));
        check.refuses(Check.STATE, "NAMES, that has one", Check.NEW, k -> k.mint(0, 5, 7, 2));
        check.refuses(Check.STATE, "FILES, that has one", k -> k.call(0, 104), k -> k.mint(4, 5, 7, 2));
    }

    private static void refusedAsCopy(Check check) {
        check.about("As copy");
        check.refuses(Check.STATE, "none is CURRENT", Check.NONE_CURRENT, k -> k.mint(2, 4, 7, 0));
        check.refuses(Check.ARGUMENT, "rights 8", Check.NEW, k -> k.mint(2, 4, 8, 1));
        check.refuses(Check.ARGUMENT, "rights -1", Check.NEW, k -> k.mint(2, 4, -1, 1));
        check.refuses(Check.ARGUMENT, "from -1", Check.NEW, k -> k.mint(-1, 4, 7, 1));
        check.refuses(Check.ARGUMENT, "from 72", Check.NEW, k -> k.mint(72, 4, 7, 1));
        check.refuses(Check.ARGUMENT, "to -1", Check.NEW, k -> k.mint(2, -1, 7, 1));
        check.refuses(Check.ARGUMENT, "to 72", Check.NEW, k -> k.mint(2, 72, 7, 1));
        check.refuses(Check.NOTHING_THERE, "an empty SLOT", Check.NEW, k -> k.mint(4, 5, 7, 1));
        check.refuses(Check.NOTHING_THERE, "to no SLOT, of the wrong kind", Check.NEW, k -> k.mint(1, 16, 7, 1));
        check.about("(among it: a SLOT to be filled is empty)");
        check.refuses(Check.STATE, "a full SLOT", Check.NEW, k -> k.mint(2, 3, 7, 1));
        check.refuses(Check.STATE, "onto itself", Check.NEW, k -> k.mint(2, 2, 7, 1));
    }
}
