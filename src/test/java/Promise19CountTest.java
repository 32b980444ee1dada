public final class Promise19CountTest {
    public static void main(String[] args) {
        Check check = new Check("promise 19, count");
        CapKernel k = new CapKernel();
        k.retype(1, 3, 4);
        k.copy(4, 8 + 8 * 4, 7);
        k.retype(1, 1, 5);
        check.is("capabilities", 15, k.count(0));
        k.delete(4);
        check.is("those of a TABLE that none can reach", 14, k.count(0));
        k.delete(5);
        check.is("objects made", 2, k.count(1));
        check.is("objects still there", 1, k.count(2));
        k.call(0, 106);
        check.is("one more by NAMES", 14, k.count(0));
        k.call(6, 431);
        k.call(6, 231);
        k.call(6, 230);
        check.is("blocks READ", 3, k.count(3));
        check.is("blocks WRITTEN", 2, k.count(4));
        check.is("blocks free", 5, k.count(5));
        Check.NONE_CURRENT.on(k);
        check.is("none being CURRENT", 14, k.count(0));
        int[] others = {-1, 6, 7, Integer.MIN_VALUE, Integer.MAX_VALUE};
        for (int what : others) {
            check.is("count(" + what + ")", -1, k.count(what));
        }
        check.end();
    }
}
