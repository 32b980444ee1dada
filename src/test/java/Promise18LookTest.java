public final class Promise18LookTest {
    public static void main(String[] args) {
        Check check = new Check("promise 18, look");
        eachPart(check);
        howManyCame(check);
        whatItHolds(check);
        ofAnyThread(check);
        refusedNumbers(check);
        refusedSlots(check);
        check.end();
    }

    private static void eachPart(Check check) {
        check.about("Of the capability at an ADDRESS of a thread: the object's kind (0), RIGHTS (1), BADGE (2), how many"
                + " CAME OF it (3)");
        CapKernel k = new CapKernel();
        k.retype(1, 3, 7);
        k.mint(3, Check.in(7, 7), 6, 250);
        k.copy(Check.in(7, 7), 5, 4);
        k.signal(Check.in(7, 7));
        check.looks(k, 1, 71, 2, 6, 250, 1, 250);
        check.looks(k, 1, 5, 2, 4, 250, 0, 250);
        check.looks(k, 1, 3, 2, 7, 0, 2, 250);
        check.looks(k, 1, 7, 3, 7, 0, 0, 0);
        check.looks(k, 1, 1, 0, 7, 0, 1, 4);
        check.looks(k, 1, 0, 1, 2, 1, 0, 0);
    }

    private static void howManyCame(Check check) {
        check.about("All that is DERIVED from it, and from that, and so on, is what CAME OF it.");
        CapKernel k = new CapKernel();
        for (int slot = 4; slot < 8; slot++) {
            k.copy(slot == 4 ? 2 : slot - 1, slot, 7);
        }
        for (int slot = 4; slot < 8; slot++) {
            check.is("of SLOT " + slot, 7 - slot, k.look(1, slot, 3));
        }
        check.is("of the first", 4, k.look(1, 2, 3));
        check.is("not of another's for the same object", 0, k.look(2, 2, 3));
    }

    private static void whatItHolds(Check check) {
        check.about("of an UNTYPED how much is USED, of a NOTIFICATION the BITS, of others 0 (4)");
        CapKernel k = new CapKernel();
        check.is("of an UNTYPED", 0, k.look(1, 1, 4));
        check.is("of a NOTIFICATION", 0, k.look(1, 3, 4));
        k.retype(1, 3, 4);
        k.retype(1, 1, Check.in(4, 0));
        k.signal(3);
        k.mint(2, 5, 7, 255);
        check.is("of an UNTYPED", 5, k.look(1, 1, 4));
        check.is("of a NOTIFICATION", 1, k.look(1, 3, 4));
        check.is("of an ENDPOINT", 0, k.look(1, 2, 4));
        check.is("of a marked ENDPOINT's", 0, k.look(1, 5, 4));
        check.is("of NAMES", 0, k.look(1, 0, 4));
        check.is("of a TABLE that holds one", 0, k.look(1, 4, 4));
        k.send(5, 9, -1);
        check.is("of an ENDPOINT at which one waits", 0, k.look(2, 2, 4));
    }

    private static void ofAnyThread(Check check) {
        check.about("at an ADDRESS of a thread");
        CapKernel k = Check.passTo(new CapKernel(), 2);
        k.retype(1, 3, 4);
        k.mint(2, Check.in(4, 0), 1, 44);
        k.pass();
        check.is("2's, while 3 is CURRENT", 44, k.look(2, Check.in(4, 0), 2));
        check.isEmptyAt(k, 3, 4);
        check.isEmptyAt(k, 3, Check.in(4, 0));
        Check.NONE_CURRENT.on(k);
        check.is("none being CURRENT", 44, k.look(2, Check.in(4, 0), 2));
    }

    private static void refusedNumbers(Check check) {
        check.about("IllegalArgumentException: numbers");
        for (int thread : new int[] {0, 4, -1, Integer.MIN_VALUE, Integer.MAX_VALUE}) {
            check.refuses(Check.ARGUMENT, "thread " + thread, Check.NEW, k -> k.look(thread, 0, 0));
        }
        for (int address : new int[] {-1, 72, Integer.MIN_VALUE, Integer.MAX_VALUE}) {
            check.refuses(Check.ARGUMENT, "ADDRESS " + address, Check.NEW, k -> k.look(1, address, 0));
        }
        for (int what : new int[] {-1, 5, Integer.MIN_VALUE, Integer.MAX_VALUE}) {
            check.refuses(Check.ARGUMENT, "what " + what, Check.NEW, k -> k.look(1, 0, what));
            check.refuses(Check.ARGUMENT, "what " + what + ", an empty SLOT", Check.NEW, k -> k.look(1, 7, what));
        }
    }

    private static void refusedSlots(Check check) {
        check.about("NoSuchElementException: no SLOT there, or an empty one");
        check.refuses(Check.NOTHING_THERE, "an empty SLOT", Check.NEW, k -> k.look(1, 7, 0));
        for (int address : new int[] {8, 15, 16, 24, 32, 40, 71}) {
            check.refuses(Check.NOTHING_THERE, "no SLOT at " + address, Check.NEW, k -> k.look(1, address, 0));
        }
        check.refuses(Check.NOTHING_THERE, "an empty SLOT of a TABLE", k -> k.retype(1, 3, 4), k -> k.look(1, 40, 0));
        check.refuses(Check.NOTHING_THERE, "1's TABLE is not 2's", k -> {
            k.retype(1, 3, 4);
            k.copy(2, 40, 7);
        }, k -> k.look(2, 40, 0));
        check.refuses(Check.NOTHING_THERE, "none being CURRENT", Check.NONE_CURRENT, k -> k.look(1, 7, 0));
    }
}
