public final class Promise19CountTest {
    public static void main(String[] args) {
        Check check = new Check("promise 19, count");
        capabilities(check);
        objects(check);
        blocks(check);
        others(check);
        check.end();
    }

    private static void capabilities(Check check) {
        check.about("Capabilities of the clients, in all TABLES that there are (0)");
        CapKernel k = new CapKernel();
        check.is("at first", 12, k.count(0));
        k.retype(1, 3, 4);
        k.copy(4, Check.in(4, 0), 7);
        k.retype(1, 1, 5);
        check.is("in ROOTS and a TABLE", 15, k.count(0));
        k.delete(4);
        check.is("those of a TABLE that none can reach", 14, k.count(0));
        k.call(0, 106);
        check.is("one more by NAMES", 15, k.count(0));
        k.move(6, 7);
        check.is("moved", 15, k.count(0));
        Check.passTo(k, 2).receive(2, 7);
        Check.passTo(k, 1).send(2, 1, 3);
        check.is("one more by a message", 16, k.count(0));
        k.send(2, 1, 3);
        check.is("none by a message that waits", 16, k.count(0));
        k = new CapKernel();
        for (int i = 0; i < 12; i++) {
            k.delete(i / 3);
            k.pass();
        }
        check.is("none at all", 0, k.count(0));
    }

    private static void objects(Check check) {
        check.about("objects made by retype (1), of these still there (2)");
        CapKernel k = new CapKernel();
        for (int i = 1; i <= 4; i++) {
            k.retype(1, i - 1, 3 + i);
            check.is("made", i, k.count(1));
            check.is("still there", i, k.count(2));
        }
        for (int i = 1; i <= 4; i++) {
            k.delete(3 + i);
            check.is("made", 4, k.count(1));
            check.is("still there", 4 - i, k.count(2));
        }
        k.delete(1);
        check.is("the first objects do not count", 0, k.count(2));
    }

    private static void blocks(Check check) {
        check.about("blocks READ (3) and WRITTEN (4), blocks that are free (5)");
        CapKernel k = new CapKernel();
        k.call(0, 106);
        k.call(6, 431);
        k.call(6, 231);
        k.call(6, 230);
        check.is("blocks READ", 3, k.count(3));
        check.is("blocks WRITTEN", 2, k.count(4));
        check.is("blocks free", 5, k.count(5));
        k.call(6, 1303);
        check.is("blocks READ", 3, k.count(3));
        check.is("blocks WRITTEN", 2, k.count(4));
        check.is("blocks free", 6, k.count(5));
    }

    private static void others(Check check) {
        check.about("-1 for others");
        CapKernel k = new CapKernel();
        Check.NONE_CURRENT.on(k);
        check.is("none being CURRENT", 12, k.count(0));
        for (int what : new int[] {-1, -2, 6, 7, Integer.MIN_VALUE, Integer.MAX_VALUE}) {
            check.is("count(" + what + ")", -1, k.count(what));
        }
    }
}
