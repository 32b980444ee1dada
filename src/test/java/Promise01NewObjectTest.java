/** The state that the terms give. */
public final class Promise01NewObjectTest {
    public static void main(String[] args) {
        Check check = new Check("promise 1, a new object");
        counts(check);
        threads(check);
        slots(check);
        emptySlots(check);
        whatIsShared(check);
        objectsAreApart(check);
        check.end();
    }

    private static void counts(Check check) {
        check.about("makes an object in the state that the terms give");
        CapKernel k = new CapKernel();
        int[] counts = {12, 0, 0, 0, 0, 6};
        for (int what = 0; what < counts.length; what++) {
            check.is("count(" + what + ")", counts[what], k.count(what));
        }
    }

    private static void threads(Check check) {
        check.about("A thread has a PRIORITY 0 .. 3 (1 at first), and the last OUTCOME of what it waited for: OK 0,"
                + " ABORTED 1, with WORD, BADGE and ADDRESS of what came (all 0 at first).");
        CapKernel k = new CapKernel();
        for (int thread = 1; thread <= 3; thread++) {
            check.heard(k, thread, 0, 0, 0, 0, 0);
            check.is("PRIORITY", 1, k.thread(thread, 5));
        }
        check.about("the LINE is 1, 2, 3 at first");
        check.is("the first", 1, k.current());
        check.is("the second", 2, k.pass());
        check.is("the third", 3, k.pass());
        check.is("the first again", 1, k.pass());
    }

    private static void slots(Check check) {
        check.about("At first ROOT SLOT 0 of each client has a capability for the NAMES ENDPOINT (WRITE, and its number as"
                + " the BADGE), SLOT 1 one for an UNTYPED of SIZE 16 (each its own), SLOT 2 one for an ENDPOINT, SLOT 3"
                + " one for a NOTIFICATION (these two the same for all three), with all RIGHTS, BADGE 0, DERIVED from"
                + " none.");
        CapKernel k = new CapKernel();
        for (int thread = 1; thread <= 3; thread++) {
            check.looks(k, thread, 0, 1, 2, thread, 0, 0);
            check.looks(k, thread, 1, 0, 7, 0, 0, 0);
            check.looks(k, thread, 2, 1, 7, 0, 0, 0);
            check.looks(k, thread, 3, 2, 7, 0, 0, 0);
        }
    }

    private static void emptySlots(Check check) {
        check.about("At first ROOT SLOT 0 of each client has a capability for the NAMES ENDPOINT");
        CapKernel k = new CapKernel();
        for (int thread = 1; thread <= 3; thread++) {
            for (int address = 4; address < 72; address++) {
                check.isEmptyAt(k, thread, address);
            }
        }
    }

    private static void whatIsShared(Check check) {
        check.about("SLOT 1 one for an UNTYPED of SIZE 16 (each its own)");
        CapKernel k = new CapKernel();
        for (int slot = 4; slot < 8; slot++) {
            check.is("four TABLES of SIZE 16", slot - 3, k.retype(1, 3, slot));
        }
        check.is("USED of 1's own UNTYPED", 16, k.look(1, 1, 4));
        check.is("USED of 2's own UNTYPED", 0, k.look(2, 1, 4));
        check.is("USED of 3's own UNTYPED", 0, k.look(3, 1, 4));
        check.about("(these two the same for all three)");
        k.signal(3);
        check.is("the NOTIFICATION is the same for 2", 1, k.look(2, 3, 4));
        check.is("the NOTIFICATION is the same for 3", 1, k.look(3, 3, 4));
        k.send(2, 9, -1);
        check.is("the ENDPOINT is the same for 2", 0, k.receive(2, -1));
        check.is("WORD", 9, k.thread(2, 2));
        k.send(2, 8, -1);
        check.is("the ENDPOINT is the same for 3", 0, k.receive(2, -1));
        check.is("WORD", 8, k.thread(3, 2));
        check.about("DERIVED from none");
        check.is("none CAME OF another's", 0, k.revoke(2) + k.revoke(3) + k.revoke(0) + k.revoke(1));
    }

    private static void objectsAreApart(Check check) {
        check.about("makes an object in the state that the terms give");
        CapKernel used = new CapKernel();
        used.call(0, 105);
        used.call(5, 1200);
        used.retype(1, 3, 6);
        used.signal(3);
        used.priority(2, 3);
        used.await(3);
        CapKernel k = new CapKernel();
        check.is("current()", 1, k.current());
        check.is("capabilities", 12, k.count(0));
        check.is("objects made", 0, k.count(1));
        check.is("blocks free", 6, k.count(5));
        check.is("BITS", 0, k.look(1, 3, 4));
        check.is("USED", 0, k.look(1, 1, 4));
    }
}
