/** The state that the terms give. */
public final class Promise01NewObjectTest {
    public static void main(String[] args) {
        Check check = new Check("promise 1, a new object");
        CapKernel k = new CapKernel();
        check.is("current()", 1, k.current());
        int[] counts = {12, 0, 0, 0, 0, 6};
        for (int what = 0; what < counts.length; what++) {
            check.is("count(" + what + ")", counts[what], k.count(what));
        }
        for (int thread = 1; thread <= 3; thread++) {
            looksAtClient(check, k, thread);
        }
        check.is("the LINE's second", 2, k.pass());
        check.is("the LINE's third", 3, k.pass());
        check.is("the LINE's first again", 1, k.pass());
        looksAtWhatIsShared(check);
        check.end();
    }

    private static void looksAtClient(Check check, CapKernel k, int thread) {
        check.heard(k, thread, 0, 0, 0, 0, 0);
        check.is("PRIORITY", 1, k.thread(thread, 5));
        int[][] slots = {{1, 2, thread, 0, 0}, {0, 7, 0, 0, 0}, {1, 7, 0, 0, 0}, {2, 7, 0, 0, 0}};
        for (int slot = 0; slot < slots.length; slot++) {
            for (int what = 0; what < 5; what++) {
                String call = "look(" + thread + ", " + slot + ", " + what + ")";
                check.is(call, slots[slot][what], k.look(thread, slot, what));
            }
        }
        for (int slot = 4; slot < 8; slot++) {
            if (!Check.isEmpty(k, thread, slot)) {
                check.tell("SLOT " + slot + " of " + thread + " is not empty");
            }
        }
    }

    private static void looksAtWhatIsShared(Check check) {
        CapKernel k = new CapKernel();
        check.is("SIZE 16: four TABLES", 1, k.retype(1, 3, 4));
        k.retype(1, 3, 5);
        k.retype(1, 3, 6);
        k.retype(1, 3, 7);
        check.is("USED of 1's own UNTYPED", 16, k.look(1, 1, 4));
        check.is("USED of 2's own UNTYPED", 0, k.look(2, 1, 4));
        k.signal(3);
        check.is("the NOTIFICATION is the same for 3", 1, k.look(3, 3, 4));
        k.send(2, 9, -1);
        check.is("the ENDPOINT is the same for 2", 0, k.receive(2, -1));
        check.is("WORD", 9, k.thread(2, 2));
        check.is("NAMES is a server", 2, k.call(0, 104));
        check.refuses(Check.STATE, "one more than SIZE 16", n -> {
            n.retype(1, 3, 4);
            n.retype(1, 3, 5);
            n.retype(1, 3, 6);
            n.retype(1, 0, 7);
            n.delete(2);
        }, n -> n.retype(1, 1, 2));
    }
}
