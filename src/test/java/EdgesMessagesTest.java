/** The edges of MESSAGES: where a capability goes, when it does not come, and what the lines of an ENDPOINT keep. */
public final class EdgesMessagesTest {
    private static final int OF_2 = Check.in(7, 6);
    private static final int OF_1 = Check.in(4, 6);

    public static void main(String[] args) {
        Check check = new Check("edges, messages");
        noneSaid(check);
        noneSent(check);
        fullWhenItReceivedAndWhenItComes(check);
        fullWhenItReceivedEmptyWhenItComes(check);
        rootSlotEmptiedMeanwhile(check);
        emptyWhenItReceivedFullWhenItComes(check);
        tableGoneMeanwhile(check);
        tableOutOfReachMeanwhile(check);
        capabilityGoneMeanwhile(check);
        itsSlotFilledAgain(check);
        capabilityByWhichItIsSentGoneMeanwhile(check);
        allItsRights(check);
        aTableIntoItself(check);
        wordsOfAnySize(check);
        linesOfAnEndpoint(check);
        check.end();
    }

    /** Threads 1 and 2 have a TABLE in common, 1 at SLOT 4 and 2 at SLOT 7. */
    private static CapKernel withSharedTable() {
        CapKernel k = new CapKernel();
        k.retype(1, 3, 4);
        Check.share(k, 4, 7);
        return k;
    }

    private static void noneSaid(Check check) {
        check.about("and it said one");
        CapKernel k = new CapKernel();
        k.receive(2, -1);
        k.send(2, 3, 3);
        check.heard(k, 1, 0, 0, 3, 0, -1);
        check.is("nothing CAME OF it", 0, k.look(2, 3, 3));
        k = new CapKernel();
        k.send(2, 3, 3);
        k.receive(2, -1);
        check.heard(k, 2, 0, 0, 3, 0, -1);
        check.is("nothing CAME OF it", 0, k.look(1, 3, 3));
    }

    private static void noneSent(Check check) {
        check.about("else -1 (also without a capability)");
        CapKernel k = new CapKernel();
        k.receive(2, 0);
        k.send(2, 3, -1);
        check.heard(k, 1, 0, 0, 3, 0, -1);
        k = new CapKernel();
        k.receive(2, 5);
        k.call(2, 3);
        check.heard(k, 1, 0, 0, 3, 0, -1);
        check.isEmptyAt(k, 1, 5);
        k = new CapKernel();
        k.call(2, 3);
        k.receive(2, 5);
        check.heard(k, 2, 0, 0, 3, 0, -1);
        check.isEmptyAt(k, 2, 5);
    }

    private static void fullWhenItReceivedAndWhenItComes(Check check) {
        check.about("if that is still there and empty");
        CapKernel k = new CapKernel();
        check.is("a SLOT that there is, not an empty one", 1, k.receive(2, 1));
        check.is("send", 0, k.send(2, 3, 3));
        check.heard(k, 1, 0, 0, 3, 0, -1);
        check.looks(k, 1, 1, 0, 7, 0, 0, 0);
        check.is("nothing CAME OF it", 0, k.look(2, 3, 3));
        check.is("capabilities", 12, k.count(0));
    }

    private static void fullWhenItReceivedEmptyWhenItComes(Check check) {
        check.about("if that is still there and empty");
        CapKernel k = withSharedTable();
        k.copy(1, OF_1, 7);
        check.is("a full SLOT", 1, Check.passTo(k, 2).receive(2, OF_2));
        Check.passTo(k, 1).delete(OF_1);
        check.is("send", 0, k.send(2, 3, 3));
        check.heard(k, 2, 0, 0, 3, 0, OF_2);
        check.looks(k, 1, OF_1, 2, 7, 0, 0, 0);
    }

    private static void rootSlotEmptiedMeanwhile(Check check) {
        check.about("if that is still there and empty");
        CapKernel k = new CapKernel();
        Check.share(k, 3, 6);
        check.is("2 receives into a full SLOT", 1, Check.passTo(k, 2).receive(2, 6));
        check.is("that is emptied", 2, Check.passTo(k, 1).revoke(3));
        k.send(2, 3, 1);
        check.heard(k, 2, 0, 0, 3, 0, 6);
        check.looks(k, 2, 6, 0, 7, 0, 0, 0);
    }

    private static void emptyWhenItReceivedFullWhenItComes(Check check) {
        check.about("if that is still there and empty");
        CapKernel k = withSharedTable();
        check.is("an empty SLOT", 1, Check.passTo(k, 2).receive(2, OF_2));
        Check.passTo(k, 1).copy(1, OF_1, 7);
        k.send(2, 3, 3);
        check.heard(k, 2, 0, 0, 3, 0, -1);
        check.looks(k, 1, OF_1, 0, 7, 0, 0, 4);
        check.is("nothing CAME OF it", 0, k.look(1, 3, 3));
    }

    private static void tableGoneMeanwhile(Check check) {
        check.about("if that is still there and empty");
        CapKernel k = withSharedTable();
        Check.passTo(k, 2).receive(2, OF_2);
        check.is("the TABLE is gone", 3, Check.passTo(k, 1).revoke(1));
        check.is("send", 0, k.send(2, 3, 3));
        check.heard(k, 2, 0, 0, 3, 0, -1);
        check.is("nothing CAME OF it", 0, k.look(1, 3, 3));
        check.is("capabilities", 12, k.count(0));
    }

    private static void tableOutOfReachMeanwhile(Check check) {
        check.about("(that SLOT of that TABLE, as it was when it received)");
        CapKernel k = withSharedTable();
        Check.passTo(k, 2).receive(2, OF_2);
        check.is("2 and 3 have it no more", 2, Check.passTo(k, 1).revoke(4));
        check.isEmptyAt(k, 2, 7);
        k.send(2, 3, 3);
        check.heard(k, 2, 0, 0, 3, 0, OF_2);
        check.looks(k, 1, OF_1, 2, 7, 0, 0, 0);
        check.is("it CAME OF 1's", 1, k.look(1, 3, 3));
    }

    private static void capabilityGoneMeanwhile(Check check) {
        check.about("A capability that is gone meanwhile does not come.");
        CapKernel k = new CapKernel();
        Check.share(k, 3, 6);
        Check.passTo(k, 2).mint(2, 5, 6, 8);
        k.send(5, 77, 6);
        check.is("taken back while 2 is SENDING", 2, Check.passTo(k, 1).revoke(3));
        check.is("the message comes", 0, k.receive(2, 7));
        check.heard(k, 1, 0, 0, 77, 8, -1);
        check.isEmptyAt(k, 1, 7);
        check.heard(k, 2, 0, 0, 0, 0, 6);
    }

    private static void itsSlotFilledAgain(Check check) {
        check.about("A capability that is gone meanwhile does not come.");
        CapKernel k = withSharedTable();
        k.mint(3, OF_1, 7, 5);
        Check.passTo(k, 2).send(2, 77, OF_2);
        Check.passTo(k, 1).delete(OF_1);
        k.mint(3, OF_1, 7, 6);
        check.is("another stands there now", 0, k.receive(2, 6));
        check.heard(k, 1, 0, 0, 77, 0, -1);
        check.isEmptyAt(k, 1, 6);
    }

    private static void capabilityByWhichItIsSentGoneMeanwhile(Check check) {
        check.about("a WORD, the BADGE of the capability by which it is sent, and perhaps a capability");
        CapKernel k = new CapKernel();
        k.mint(2, 4, 7, 9);
        Check.share(k, 4, 5);
        Check.passTo(k, 2).send(5, 77, 3);
        Check.passTo(k, 3).call(5, 78);
        check.is("both lose it", 2, Check.passTo(k, 1).revoke(4));
        check.is("2 is SENDING still", 1, k.thread(2, 0));
        check.is("2's message", 0, k.receive(2, 7));
        check.heard(k, 1, 0, 0, 77, 9, 7);
        check.is("3's message", 0, k.receive(2, 6));
        check.heard(k, 1, 0, 0, 78, 9, -1);
        check.is("it may be answered", 3, k.answer(1));
    }

    private static void allItsRights(Check check) {
        check.about("it is copied, as by copy with all its RIGHTS");
        for (int rights = 0; rights <= 7; rights++) {
            CapKernel k = new CapKernel();
            k.receive(2, 7);
            k.mint(3, 4, rights, 30 + rights);
            check.is("RIGHTS of what goes are not wanted", 0, k.send(2, 1, 4));
            check.looks(k, 1, 7, 2, rights, 30 + rights, 0, 0);
            check.is("it is DERIVED from that", 1, k.look(2, 4, 3));
            check.is("the sender's stays", rights, k.look(2, 4, 1));
        }
    }

    private static void aTableIntoItself(Check check) {
        check.about("it is copied, as by copy with all its RIGHTS");
        CapKernel k = withSharedTable();
        Check.passTo(k, 2).receive(2, OF_2);
        check.is("a TABLE's capability", 0, Check.passTo(k, 1).send(2, 1, 4));
        check.heard(k, 2, 0, 0, 1, 0, OF_2);
        check.looks(k, 1, OF_1, 3, 7, 0, 0, 0);
        k = new CapKernel();
        k.receive(2, 7);
        check.is("the very capability by which it is sent", 0, k.send(2, 1, 2));
        check.looks(k, 1, 7, 1, 7, 0, 0, 0);
    }

    private static void wordsOfAnySize(Check check) {
        check.about("MESSAGES: a WORD");
        int[] words = {Integer.MIN_VALUE, -1, 0, 1, Integer.MAX_VALUE};
        for (int word : words) {
            CapKernel k = new CapKernel();
            k.receive(2, -1);
            k.send(2, word, -1);
            check.is("sent to one that receives", word, k.thread(1, 2));
            k.send(2, word, -1);
            Check.passTo(k, 1).receive(2, -1);
            check.is("sent before", word, k.thread(1, 2));
            Check.passTo(k, 3).call(2, word);
            Check.passTo(k, 2).receive(2, -1);
            check.is("called", word, k.thread(2, 2));
            k.answer(word);
            check.is("answered", word, k.thread(3, 2));
        }
    }

    private static void linesOfAnEndpoint(Check check) {
        check.about("An ENDPOINT has those who send (SENDING or CALLING) in a line, and those who receive in a line; one"
                + " of the two is empty.");
        CapKernel k = new CapKernel();
        Check.passTo(k, 3).call(2, 30);
        Check.passTo(k, 2).send(2, 20, -1);
        k.receive(2, -1);
        check.heard(k, 1, 0, 0, 30, 0, -1);
        check.is("3 is ASKING", 3, k.thread(3, 0));
        check.is("2 is SENDING still", 1, k.thread(2, 0));
        k.receive(2, -1);
        check.heard(k, 1, 0, 0, 20, 0, -1);
        check.is("then none is left", 1, Check.passTo(k, 1).receive(2, -1));
        k = new CapKernel();
        Check.passTo(k, 3).receive(2, -1);
        Check.passTo(k, 2).receive(2, -1);
        check.is("a call to the first that receives", 0, k.call(2, 10));
        check.heard(k, 3, 0, 0, 10, 0, -1);
        check.is("2 is RECEIVING still", 4, k.thread(2, 0));
        check.is("a send to the second", 0, k.send(2, 11, -1));
        check.heard(k, 2, 0, 0, 11, 0, -1);
        check.is("none receives any more", 1, Check.passTo(k, 2).send(2, 12, -1));
    }
}
