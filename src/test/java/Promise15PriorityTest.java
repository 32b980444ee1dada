public final class Promise15PriorityTest {
    public static void main(String[] args) {
        Check check = new Check("promise 15, priority");
        theOldOne(check);
        fromOutside(check);
        refusals(check);
        check.end();
    }

    private static void theOldOne(Check check) {
        check.about("a thread's PRIORITY 0 .. 3: the old one");
        CapKernel k = new CapKernel();
        for (int thread = 1; thread <= 3; thread++) {
            int old = 1;
            for (int p : new int[] {0, 3, 2, 2, 1, 0}) {
                check.is("the old one", old, k.priority(thread, p));
                check.is("the new one", p, k.thread(thread, 5));
                old = p;
            }
        }
        k = new CapKernel();
        k.priority(3, 3);
        check.is("3 is CURRENT", 3, k.current());
        k.priority(3, 0);
        check.is("1 is CURRENT", 1, k.current());
        k.priority(1, 0);
        k.priority(2, 0);
        check.is("the LINE is as it was", 1, k.current());
    }

    private static void fromOutside(Check check) {
        check.about("From outside");
        CapKernel k = new CapKernel();
        Check.NONE_CURRENT.on(k);
        check.is("none being CURRENT", 1, k.priority(2, 2));
        check.is("a thread that waits", 2, k.thread(2, 5));
        check.is("it still waits", 5, k.thread(2, 0));
        check.is("none is CURRENT by it", 0, k.current());
    }

    private static void refusals(Check check) {
        check.about("a thread's PRIORITY 0 .. 3: the old one. IllegalArgumentException.");
        for (int thread : new int[] {0, 4, -1, Integer.MIN_VALUE, Integer.MAX_VALUE}) {
            check.refuses(Check.ARGUMENT, "thread " + thread, Check.NEW, k -> k.priority(thread, 1));
        }
        for (int p : new int[] {-1, 4, Integer.MIN_VALUE, Integer.MAX_VALUE}) {
            check.refuses(Check.ARGUMENT, "PRIORITY " + p, Check.NEW, k -> k.priority(1, p));
        }
        check.refuses(Check.ARGUMENT, "none being CURRENT", Check.NONE_CURRENT, k -> k.priority(-1, 1));
    }
}
