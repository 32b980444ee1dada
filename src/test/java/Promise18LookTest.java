public final class Promise18LookTest {
    public static void main(String[] args) {
        Check check = new Check("promise 18, look");
        CapKernel k = new CapKernel();
        k.retype(1, 3, 4);
        k.mint(3, 8 + 8 * 4 + 7, 6, 250);
        k.copy(8 + 8 * 4 + 7, 5, 4);
        k.signal(8 + 8 * 4 + 7);
        int[] due = {2, 6, 250, 1, 250};
        for (int what = 0; what < due.length; what++) {
            check.is("look(1, 47, " + what + ")", due[what], k.look(1, 8 + 8 * 4 + 7, what));
        }
        check.is("USED", 4, k.look(1, 1, 4));
        check.is("of an ENDPOINT", 0, k.look(1, 2, 4));
        check.is("of a TABLE", 0, k.look(1, 4, 4));
        check.is("of another thread's", 250, k.look(3, 3, 4));
        check.is("CAME OF it", 2, k.look(1, 3, 3));
        check.is("not of another's for the same object", 0, k.look(2, 3, 3));
        check.is("the last ADDRESS", 0, k.move(4, 7));
        check.is("the last ADDRESS", 2, k.look(1, 71, 0));
        refusals(check);
        check.end();
    }

    private static void refusals(Check check) {
        check.refuses(Check.ARGUMENT, "thread 0", Check.NEW, k -> k.look(0, 0, 0));
        check.refuses(Check.ARGUMENT, "thread 4", Check.NEW, k -> k.look(4, 0, 0));
        check.refuses(Check.ARGUMENT, "ADDRESS -1", Check.NEW, k -> k.look(1, -1, 0));
        check.refuses(Check.ARGUMENT, "ADDRESS 72", Check.NEW, k -> k.look(1, 72, 0));
        check.refuses(Check.ARGUMENT, "what -1", Check.NEW, k -> k.look(1, 0, -1));
        check.refuses(Check.ARGUMENT, "what 5, an empty SLOT", Check.NEW, k -> k.look(1, 7, 5));
        check.refuses(Check.NOTHING_THERE, "an empty SLOT", Check.NEW, k -> k.look(1, 7, 0));
        check.refuses(Check.NOTHING_THERE, "no SLOT", Check.NEW, k -> k.look(1, 8, 0));
        check.refuses(Check.NOTHING_THERE, "an empty SLOT of a TABLE", k -> k.retype(1, 3, 4), k -> k.look(1, 40, 0));
        check.refuses(Check.NOTHING_THERE, "none being CURRENT", Check.NONE_CURRENT, k -> k.look(1, 7, 0));
    }
}
