/** The limits: 512 calls, 40 objects, the SIZE of an UNTYPED, and how deep TABLES may lie in one another. */
public final class EdgesLimitsTest {
    public static void main(String[] args) {
        Check check = new Check("edges, limits");
        all512Calls(check);
        moreCallsDoNoHarm(check);
        sixteen(check);
        four(check);
        forty(check);
        tablesInALongChain(check);
        allSlotsFull(check);
        check.end();
    }

    private static void all512Calls(Check check) {
        check.about("An object is used for at most 512 calls after it has been made");
        CapKernel k = new CapKernel();
        for (int i = 0; i < 128; i++) {
            int badge = 1 + i % 255;
            check.is("call " + (4 * i + 1), 7, k.mint(2, 4, 7, badge));
            check.is("call " + (4 * i + 2), badge, k.look(1, 4, 2));
            check.is("call " + (4 * i + 3), 13, k.count(0));
            check.is("call " + (4 * i + 4), 1, k.delete(4));
        }
        k = new CapKernel();
        for (int i = 0; i < 256; i++) {
            check.is("signal " + i, 0, k.signal(3));
            check.is("await " + i, 0, k.await(3));
        }
        k = new CapKernel();
        for (int i = 0; i < 511; i++) {
            check.is("pass " + i, 1 + (i + 1) % 3, k.pass());
        }
        check.is("the 512th", 2, k.current());
    }

    private static void moreCallsDoNoHarm(Check check) {
        check.about("what later calls answer is free");
        CapKernel k = new CapKernel();
        for (int i = 0; i < 5000; i++) {
            k.copy(2, 4, 7);
            k.revoke(2);
            k.call(0, 105);
            k.call(5, 300);
            k.delete(5);
        }
        check.is("count", -1, k.count(99));
    }

    private static void sixteen(Check check) {
        check.about("SLOT 1 one for an UNTYPED of SIZE 16 (each its own)");
        CapKernel k = new CapKernel();
        k.retype(1, 3, 4);
        for (int slot = 0; slot < 8; slot++) {
            check.is("small ones", 2 + slot, k.retype(1, 1 + slot % 2, Check.in(4, slot)));
        }
        check.is("USED", 12, k.look(1, 1, 4));
        check.is("the last 4 of 16", 10, k.retype(1, 0, 5));
        check.is("USED", 16, k.look(1, 1, 4));
        for (int kind = 0; kind <= 3; kind++) {
            int one = kind;
            check.refuses(Check.STATE, "none of 16 left, kind " + kind, n -> useUp(n, 16), n -> n.retype(1, one, 7));
        }
        check.takes("1 of 1 left", n -> useUp(n, 15), n -> n.retype(1, 1, 7));
        check.takes("1 of 1 left", n -> useUp(n, 15), n -> n.retype(1, 2, 7));
        check.refuses(Check.STATE, "4 of 1 left", n -> useUp(n, 15), n -> n.retype(1, 0, 7));
        check.refuses(Check.STATE, "4 of 3 left", n -> useUp(n, 13), n -> n.retype(1, 3, 7));
        check.refuses(Check.STATE, "4 of 3 left", n -> useUp(n, 13), n -> n.retype(1, 0, 7));
        check.takes("4 of 4 left", n -> useUp(n, 12), n -> n.retype(1, 3, 7));
        check.takes("4 of 4 left", n -> useUp(n, 12), n -> n.retype(1, 0, 7));
        CapKernel others = new CapKernel();
        useUp(others, 16);
        check.is("2 has its own", 17, Check.passTo(others, 2).retype(1, 1, 7));
    }

    private static void useUp(CapKernel k, int size) {
        for (int i = 0; i < size; i++) {
            k.retype(1, 1, 4);
            k.delete(4);
        }
    }

    private static void four(Check check) {
        check.about("It takes 4 (UNTYPED, SIZE 4; TABLE) or 1 of the SIZE that is not USED");
        CapKernel k = new CapKernel();
        k.retype(1, 0, 4);
        for (int i = 1; i <= 4; i++) {
            check.is("small ones of SIZE 4", 1 + i, k.retype(4, 2, 5));
            k.delete(5);
            check.is("USED", i, k.look(1, 4, 4));
        }
        check.is("USED of the one that it was made of", 4, k.look(1, 1, 4));
        check.refuses(Check.STATE, "a fifth", n -> {
            n.retype(1, 0, 4);
            for (int i = 0; i < 4; i++) {
                n.retype(4, 2, 5);
                n.delete(5);
            }
        }, n -> n.retype(4, 1, 5));
        check.takes("a TABLE of SIZE 4", n -> n.retype(1, 0, 4), n -> n.retype(4, 3, 5));
        check.takes("an UNTYPED of SIZE 4", n -> n.retype(1, 0, 4), n -> n.retype(4, 0, 5));
        check.refuses(Check.STATE, "1 of an UNTYPED whose SIZE another took", n -> {
            n.retype(1, 0, 4);
            n.retype(4, 0, 5);
        }, n -> n.retype(4, 1, 6));
    }

    private static void forty(Check check) {
        check.about("there are at most 40 ever: else IllegalStateException");
        CapKernel k = new CapKernel();
        for (int number = 1; number <= 40; number++) {
            check.is("number", number, k.retype(1, number % 4, 4));
            check.is("made", number, k.count(1));
            k.revoke(1);
        }
        check.is("none is left", 0, k.count(2));
        check.is("nothing is USED", 0, k.look(1, 1, 4));
        for (int kind = 0; kind <= 3; kind++) {
            int one = kind;
            check.refuses(Check.STATE, "the 41st, kind " + kind, EdgesLimitsTest::makeForty, n -> n.retype(1, one, 4));
        }
        check.refuses(Check.STATE, "the 41st, of another's UNTYPED", n -> {
            makeForty(n);
            n.pass();
        }, n -> n.retype(1, 1, 4));
    }

    private static void makeForty(CapKernel k) {
        for (int i = 0; i < 40; i++) {
            k.retype(1, 1, 4);
            k.revoke(1);
        }
    }

    /** Each of 20 TABLES holds the next; the first is at 4. */
    private static void tablesInALongChain(Check check) {
        check.about("a TABLE's capabilities are deleted then, SLOT by SLOT");
        CapKernel k = new CapKernel();
        k.copy(1, 7, 7);
        int tables = 20;
        for (int i = 0; i < tables; i++) {
            // The copy's revoke finds no object left of the first UNTYPED: only of the smaller one, that is gone.
            k.retype(1, 0, 6);
            k.retype(6, 3, 5);
            k.delete(6);
            k.revoke(7);
            if (i > 0) {
                k.move(4, Check.in(5, i % 8));
            }
            k.move(5, 4);
        }
        check.is("objects there", tables, k.count(2));
        check.is("capabilities", 13 + tables, k.count(0));
        check.is("all of the chain", tables, k.delete(4));
        check.is("objects there", 0, k.count(2));
        check.is("capabilities", 13, k.count(0));
    }

    private static void allSlotsFull(Check check) {
        check.about("TABLE 3 (8 SLOTS)");
        CapKernel k = new CapKernel();
        for (int slot = 4; slot < 8; slot++) {
            k.retype(1, 3, slot);
        }
        for (int address = Check.in(4, 0); address <= 71; address++) {
            check.is("copy to " + address, 7, k.copy(2, address, 7));
        }
        check.is("capabilities", 12 + 4 + 32, k.count(0));
        check.is("CAME OF one", 32, k.look(1, 2, 3));
        check.is("a full TABLE", 9, k.delete(7));
        check.is("another full one", 9, k.delete(6));
        check.is("all that came of it", 16, k.revoke(2));
        check.is("an empty TABLE", 1, k.delete(5));
        check.is("an empty TABLE", 1, k.delete(4));
    }
}
