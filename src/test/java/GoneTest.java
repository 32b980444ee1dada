/** Objects that are gone, what goes with them, and who waits at them. */
public final class GoneTest {
    public static void main(String[] args) {
        Check check = new Check("terms, what is gone");
        onlyWithTheLast(check);
        capabilitiesInATableCount(check);
        tablesGoSlotBySlot(check);
        derivedFromWhatItWasDerivedFrom(check);
        derivedFromWhatLayInATable(check);
        sendersAreAborted(check);
        receiversAreAborted(check);
        waitersAreAborted(check);
        theFirstOnesToo(check);
        nobodyElseIsAborted(check);
        outcomeOfTheNext(check);
        serversAreNeverGone(check);
        check.end();
    }

    private static void onlyWithTheLast(Check check) {
        check.about("An object is gone when the last capability for it is");
        for (int kind = 0; kind <= 3; kind++) {
            CapKernel k = new CapKernel();
            k.retype(1, kind, 4);
            k.copy(4, 5, 0);
            check.is("delete of the first", 1, k.delete(4));
            check.is("still there, kind " + kind, 1, k.count(2));
            check.is("delete of the last", 1, k.delete(5));
            check.is("gone, kind " + kind, 0, k.count(2));
            check.is("made", 1, k.count(1));
        }
    }

    private static void capabilitiesInATableCount(Check check) {
        check.about("An object is gone when the last capability for it is");
        CapKernel k = new CapKernel();
        k.retype(1, 3, 4);
        k.retype(1, 1, Check.in(4, 7));
        k.retype(1, 2, 5);
        k.copy(5, Check.in(4, 0), 7);
        check.is("the TABLE and two", 3, k.delete(4));
        check.is("the NOTIFICATION has another", 1, k.count(2));
        check.looks(k, 1, 5, 2, 7, 0, 0, 0);
        k = new CapKernel();
        k.retype(1, 3, 4);
        k.copy(4, Check.in(4, 2), 7);
        check.is("a TABLE that holds itself", 1, k.delete(4));
        check.is("is still there", 1, k.count(2));
        check.is("with what it holds", 13, k.count(0));
        check.is("till all that CAME OF the UNTYPED is gone", 1, k.revoke(1));
        check.is("then it is not", 0, k.count(2));
    }

    private static void tablesGoSlotBySlot(Check check) {
        check.about("a TABLE's capabilities are deleted then, SLOT by SLOT");
        for (int first = 0; first < 7; first++) {
            int twosSlot = first;
            check.is("SLOT " + first + " before SLOT 7", 2, firstAborted(twosSlot, 7));
            check.is("SLOT 7 after SLOT " + first, 3, firstAborted(7, twosSlot));
        }
    }

    /** Threads 2 and 3 wait at objects whose last capabilities lie in these SLOTS of a TABLE that is gone then. */
    private static int firstAborted(int twosSlot, int threesSlot) {
        CapKernel k = new CapKernel();
        k.retype(1, 3, 4);
        k.retype(1, 1, 5);
        k.retype(1, 2, 6);
        Check.share(k, 5, 5);
        Check.share(k, 6, 6);
        Check.passTo(k, 3).receive(5, -1);
        Check.passTo(k, 2).await(6);
        k.move(6, Check.in(4, twosSlot));
        k.move(5, Check.in(4, threesSlot));
        k.revoke(Check.in(4, twosSlot));
        k.revoke(Check.in(4, threesSlot));
        return k.delete(4) == 3 ? k.pass() : -1;
    }

    private static void derivedFromWhatItWasDerivedFrom(Check check) {
        check.about("(a capability that is gone while others were DERIVED from it leaves these DERIVED from what it was"
                + " DERIVED from itself)");
        CapKernel k = new CapKernel();
        k.copy(2, 4, 7);
        k.copy(4, 5, 7);
        k.copy(5, 6, 7);
        k.delete(5);
        check.is("CAME OF the first", 2, k.look(1, 2, 3));
        check.is("CAME OF the second", 1, k.look(1, 4, 3));
        k.delete(4);
        check.is("CAME OF the first", 1, k.look(1, 2, 3));
        check.is("taken back", 1, k.revoke(2));
        k = new CapKernel();
        k.copy(2, 4, 7);
        k.copy(2, 5, 7);
        check.is("of one DERIVED from none", 1, k.delete(2));
        check.is("they are DERIVED from none", 0, k.look(1, 4, 3));
        check.is("not from one another", 0, k.revoke(5));
        check.is("so they stay", 1, k.look(1, 4, 0));
    }

    private static void derivedFromWhatLayInATable(Check check) {
        check.about("(a capability that is gone while others were DERIVED from it leaves these DERIVED from what it was"
                + " DERIVED from itself)");
        CapKernel k = new CapKernel();
        k.retype(1, 3, 4);
        k.copy(2, Check.in(4, 0), 7);
        k.copy(Check.in(4, 0), Check.in(4, 1), 7);
        k.copy(Check.in(4, 1), 5, 7);
        check.is("the TABLE and the two on the way", 3, k.delete(4));
        check.is("CAME OF the first", 1, k.look(1, 2, 3));
        check.is("taken back", 1, k.revoke(2));
        check.isEmptyAt(k, 1, 5);
    }

    private static void sendersAreAborted(Check check) {
        check.about("who waits at an ENDPOINT or NOTIFICATION that is gone is READY, with OUTCOME ABORTED, the longest"
                + " waiting first");
        CapKernel n = new CapKernel();
        n.retype(1, 1, 4);
        Check.share(n, 4, 5);
        check.is("3 sends first", 1, Check.passTo(n, 3).send(5, 1, -1));
        check.is("2 calls then", 1, Check.passTo(n, 2).call(5, 2));
        check.is("the first one's copies stay", 1, n.delete(4));
        check.is("nobody is aborted by it", 1, n.thread(3, 0));
        check.is("they go with the UNTYPED", 2, n.revoke(1));
        check.heard(n, 3, 0, 1, 0, 0, 5);
        check.heard(n, 2, 0, 1, 0, 0, 5);
        check.is("the longest waiting first", 3, n.pass());
        check.is("then the other", 2, n.pass());
    }

    private static void receiversAreAborted(Check check) {
        check.about("who waits at an ENDPOINT or NOTIFICATION that is gone is READY, with OUTCOME ABORTED, the longest"
                + " waiting first");
        for (int first = 2; first <= 3; first++) {
            CapKernel n = new CapKernel();
            n.retype(1, 1, 4);
            Check.share(n, 4, 5);
            Check.passTo(n, first).receive(5, 7);
            Check.passTo(n, 5 - first).receive(5, 7);
            check.is("the ENDPOINT and its copies", 3, n.revoke(1));
            check.heard(n, 2, 0, 1, 0, 0, 5);
            check.heard(n, 3, 0, 1, 0, 0, 5);
            check.is("the longest waiting first", first, n.pass());
            check.is("then the other", 5 - first, n.pass());
        }
    }

    private static void waitersAreAborted(Check check) {
        check.about("who waits at an ENDPOINT or NOTIFICATION that is gone is READY, with OUTCOME ABORTED, the longest"
                + " waiting first");
        for (int first = 2; first <= 3; first++) {
            CapKernel n = new CapKernel();
            n.retype(1, 2, 4);
            Check.share(n, 4, 5);
            Check.passTo(n, first).await(5);
            Check.passTo(n, 5 - first).await(5);
            check.is("copies, then the NOTIFICATION itself", 3, n.revoke(1));
            check.heard(n, 2, 0, 1, 0, 0, 5);
            check.heard(n, 3, 0, 1, 0, 0, 5);
            check.is("the longest waiting first", first, n.pass());
            check.is("then the other", 5 - first, n.pass());
        }
    }

    private static void theFirstOnesToo(Check check) {
        check.about("An object is gone when the last capability for it is");
        // Only NAMES, FILES and ROOTS are never gone. Thread 1 waits by a capability that others can delete.
        for (int slot = 2; slot <= 3; slot++) {
            CapKernel k = new CapKernel();
            k.retype(1, 3, 4);
            Check.share(k, 4, 7);
            k.move(slot, Check.in(4, 0));
            check.is("1 waits", 1, slot == 2 ? k.receive(Check.in(4, 0), -1) : k.await(Check.in(4, 0)));
            Check.passTo(k, 2).delete(slot);
            Check.passTo(k, 3).delete(slot);
            check.is("it waits still", slot == 2 ? 4 : 5, k.thread(1, 0));
            check.is("the last one", 1, k.delete(Check.in(7, 0)));
            check.heard(k, 1, 0, 1, 0, 0, 0);
            check.is("1 comes last in the LINE", 2, k.pass());
        }
    }

    private static void nobodyElseIsAborted(Check check) {
        check.about("who waits at an ENDPOINT or NOTIFICATION that is gone is READY, with OUTCOME ABORTED");
        CapKernel n = new CapKernel();
        n.retype(1, 1, 4);
        n.retype(1, 2, 6);
        Check.share(n, 4, 5);
        Check.passTo(n, 2).receive(2, -1);
        Check.passTo(n, 3).await(3);
        check.is("all that was made", 4, n.revoke(1));
        check.is("2 waits elsewhere", 4, n.thread(2, 0));
        check.is("3 waits elsewhere", 5, n.thread(3, 0));
        check.is("OUTCOME of 2", 0, n.thread(2, 1));
        check.is("1 goes on", 1, n.current());
        n = new CapKernel();
        n.retype(1, 1, 4);
        Check.share(n, 4, 5);
        Check.passTo(n, 2).call(5, 1);
        Check.passTo(n, 3).receive(5, -1);
        Check.passTo(n, 1).revoke(1);
        check.is("who is ASKING waits for an answer, at no ENDPOINT", 3, n.thread(2, 0));
        check.is("which still may come", 2, Check.passTo(n, 3).answer(6));
    }

    private static void outcomeOfTheNext(Check check) {
        check.about("the last OUTCOME of what it waited for: OK 0, ABORTED 1");
        CapKernel n = withTwoAborted();
        n.pass();
        check.is("OUTCOME stays", 1, n.thread(2, 1));
        n.signal(3);
        Check.passTo(n, 2).await(3);
        check.heard(n, 2, 0, 0, 1, 0, -1);
        n = withTwoAborted();
        n.await(3);
        check.heard(n, 2, 5, 1, 0, 0, 5);
        n.signal(3);
        check.heard(n, 2, 0, 0, 1, 0, -1);
        n = withTwoAborted();
        n.receive(2, -1);
        check.heard(n, 2, 4, 1, 0, 0, 5);
        n.send(2, 6, -1);
        check.heard(n, 2, 0, 0, 6, 0, -1);
        n = withTwoAborted();
        n.call(2, 7);
        check.heard(n, 2, 2, 1, 0, 0, 5);
        n.receive(2, -1);
        check.heard(n, 2, 3, 1, 0, 0, 5);
        n.answer(8);
        check.heard(n, 2, 0, 0, 8, 0, -1);
    }

    /** Thread 2 is CURRENT, and what it waited for was ABORTED. */
    private static CapKernel withTwoAborted() {
        CapKernel n = new CapKernel();
        n.retype(1, 2, 4);
        Check.share(n, 4, 5);
        Check.passTo(n, 2).await(5);
        Check.passTo(n, 1).revoke(1);
        return Check.passTo(n, 2);
    }

    private static void serversAreNeverGone(Check check) {
        check.about("(NAMES, FILES and ROOTS are never gone.)");
        CapKernel k = new CapKernel();
        k.call(0, 107);
        k.call(7, 500);
        check.is("the last one for FILES", 1, k.delete(7));
        k.call(0, 107);
        k.call(7, 200);
        check.is("the file is still there", 2, k.thread(1, 2));
        for (int i = 0; i < 3; i++) {
            check.is("one for NAMES", 1, k.delete(0));
            k.pass();
        }
        check.is("FILES serves without them", 2, k.call(7, 200));
        check.is("WORD", 2, k.thread(1, 2));
    }
}
