public final class Promise07RetypeTest {
    public static void main(String[] args) {
        Check check = new Check("promise 7, retype");
        makesEachKind(check);
        numbersGoOn(check);
        atMostForty(check);
        refusals(check);
        check.end();
    }

    private static void makesEachKind(Check check) {
        CapKernel k = new CapKernel();
        int[] used = {4, 5, 6, 10};
        for (int kind = 0; kind < 4; kind++) {
            check.is("retype to " + kind, kind + 1, k.retype(1, kind, 4 + kind));
            check.is("kind", kind, k.look(1, 4 + kind, 0));
            check.is("RIGHTS", 7, k.look(1, 4 + kind, 1));
            check.is("BADGE", 0, k.look(1, 4 + kind, 2));
            check.is("CAME OF it", 0, k.look(1, 4 + kind, 3));
            check.is("what it holds", 0, k.look(1, 4 + kind, 4));
            check.is("USED", used[kind], k.look(1, 1, 4));
        }
        check.is("CAME OF the UNTYPED", 4, k.look(1, 1, 3));
        check.is("into the TABLE", 5, k.retype(4, 1, 8 + 8 * 7));
        check.is("USED of the smaller UNTYPED", 1, k.look(1, 4, 4));
        check.is("USED of the greater stays", 10, k.look(1, 1, 4));
        check.is("CAME OF the greater", 5, k.look(1, 1, 3));
        check.is("objects made", 5, k.count(1));
        check.is("objects still there", 5, k.count(2));
    }

    private static void numbersGoOn(Check check) {
        CapKernel k = new CapKernel();
        check.is("the first", 1, k.retype(1, 1, 4));
        k.delete(4);
        check.is("not used twice", 2, k.retype(1, 1, 4));
        k.pass();
        check.is("over all threads", 3, k.retype(1, 2, 4));
        check.is("objects made", 3, k.count(1));
        check.is("objects still there", 2, k.count(2));
    }

    private static void atMostForty(Check check) {
        CapKernel k = new CapKernel();
        makeForty(k);
        check.is("objects made", 40, k.count(1));
        check.refuses(Check.STATE, "the 41st", Promise07RetypeTest::makeForty, n -> n.retype(1, 1, 4));
    }

    private static void makeForty(CapKernel k) {
        for (int i = 0; i < 40; i++) {
            k.retype(1, 1, 4);
            k.revoke(1);
        }
    }

    private static void refusals(Check check) {
        check.refuses(Check.STATE, "none is CURRENT", Check.NONE_CURRENT, k -> k.retype(1, 4, 4));
        check.refuses(Check.ARGUMENT, "kind -1", Check.NEW, k -> k.retype(1, -1, 4));
        check.refuses(Check.ARGUMENT, "kind 4", Check.NEW, k -> k.retype(1, 4, 4));
        check.refuses(Check.ARGUMENT, "from 72", Check.NEW, k -> k.retype(72, 1, 4));
        check.refuses(Check.ARGUMENT, "to -1", Check.NEW, k -> k.retype(1, 1, -1));
        check.refuses(Check.NOTHING_THERE, "an empty SLOT", Check.NEW, k -> k.retype(4, 1, 5));
        check.refuses(Check.NOTHING_THERE, "to no SLOT, of the wrong kind", Check.NEW, k -> k.retype(2, 1, 16));
        check.refuses(Check.ARGUMENT, "an ENDPOINT", Check.NEW, k -> k.retype(2, 1, 4));
        check.refuses(Check.ARGUMENT, "NAMES into a full SLOT", Check.NEW, k -> k.retype(0, 1, 2));
        check.refuses(Check.RIGHTS, "without WRITE", k -> k.copy(1, 4, 5), k -> k.retype(4, 1, 5));
        check.refuses(Check.RIGHTS, "without WRITE, a full SLOT", k -> k.copy(1, 4, 5), k -> k.retype(4, 1, 2));
        check.refuses(Check.STATE, "a full SLOT", Check.NEW, k -> k.retype(1, 1, 2));
        check.refuses(Check.STATE, "4 of 3", k -> {
            k.retype(1, 0, 4);
            k.retype(4, 1, 5);
        }, k -> k.retype(4, 3, 6));
        check.refuses(Check.STATE, "an UNTYPED of an UNTYPED with one USED", k -> {
            k.retype(1, 0, 4);
            k.retype(4, 2, 5);
        }, k -> k.retype(4, 0, 6));
        CapKernel k = new CapKernel();
        k.copy(1, 4, 2);
        check.is("WRITE is enough", 1, k.retype(4, 0, 5));
        check.is("all of SIZE 4", 2, k.retype(5, 0, 6));
    }
}
