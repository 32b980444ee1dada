public final class Promise06RevokeTest {
    public static void main(String[] args) {
        Check check = new Check("promise 6, revoke");
        takesAllThatCame(check);
        youngestFirst(check);
        stopsWhenItselfIsGone(check);
        usedIsNoughtAgain(check);
        usedStaysWithObjectsLeft(check);
        usedOfOneThatOutlivesItsCapability(check);
        refusals(check);
        check.end();
    }

    private static void takesAllThatCame(Check check) {
        CapKernel k = new CapKernel();
        k.copy(2, 4, 7);
        k.mint(4, 5, 7, 8);
        k.copy(5, 6, 7);
        check.is("of a copy", 2, k.revoke(4));
        check.is("capabilities", 13, k.count(0));
        check.is("of the first", 1, k.revoke(2));
        check.is("again", 0, k.revoke(2));
        check.is("it stays", 1, k.look(1, 2, 0));
        check.is("the others' for the same ENDPOINT stay", 1, k.look(2, 2, 0));
    }

    private static void youngestFirst(Check check) {
        CapKernel k = new CapKernel();
        k.retype(1, 1, 4);
        k.retype(1, 2, 5);
        k.pass();
        k.receive(2, 6);
        k.receive(2, 6);
        check.is("current()", 1, k.current());
        k.send(2, 0, 5);
        k.send(2, 0, 4);
        check.is("2 waits at the NOTIFICATION", 2, k.pass());
        k.await(6);
        check.is("3 waits at the ENDPOINT", 3, k.current());
        k.receive(6, -1);
        // Each copy in a message is younger than what it is of: the ENDPOINT's is the youngest, then the
        // NOTIFICATION's, then the two first ones, the NOTIFICATION's the younger: 2 is READY before 3.
        check.is("revoke(1)", 4, k.revoke(1));
        check.heard(k, 2, 0, 1, 0, 0, 6);
        check.heard(k, 3, 0, 1, 0, 0, 6);
        check.is("the first aborted", 2, k.pass());
        check.is("the second aborted", 3, k.pass());
    }

    private static void stopsWhenItselfIsGone(Check check) {
        CapKernel k = new CapKernel();
        k.retype(1, 1, 4);
        k.retype(1, 3, 5);
        k.retype(1, 1, 6);
        k.move(1, 8 + 8 * 5 + 1);
        check.is("itself in a TABLE that came of it", 3, k.revoke(8 + 8 * 5 + 1));
        check.is("what is older is left", 1, k.look(1, 4, 0));
        check.is("objects still there", 1, k.count(2));
        check.is("capabilities", 12, k.count(0));
    }

    private static void usedIsNoughtAgain(Check check) {
        CapKernel k = new CapKernel();
        k.retype(1, 3, 4);
        k.retype(1, 0, 5);
        k.retype(5, 2, 6);
        check.is("USED", 8, k.look(1, 1, 4));
        check.is("of the smaller UNTYPED", 1, k.revoke(5));
        check.is("its USED", 0, k.look(1, 5, 4));
        check.is("USED of the greater", 8, k.look(1, 1, 4));
        check.is("of the greater", 2, k.revoke(1));
        check.is("USED", 0, k.look(1, 1, 4));
        k.retype(1, 1, 4);
        k.delete(4);
        check.is("nothing CAME OF it any more", 0, k.revoke(1));
        check.is("USED", 0, k.look(1, 1, 4));
    }

    private static void usedStaysWithObjectsLeft(Check check) {
        CapKernel k = new CapKernel();
        k.retype(1, 1, 4);
        k.copy(1, 5, 7);
        k.retype(5, 2, 6);
        check.is("of the copy", 1, k.revoke(5));
        check.is("an object is left of it", 2, k.look(1, 1, 4));
        k.delete(4);
        check.is("of the copy, no object left", 0, k.revoke(5));
        check.is("USED", 0, k.look(1, 1, 4));
    }

    private static void usedOfOneThatOutlivesItsCapability(Check check) {
        CapKernel k = new CapKernel();
        k.copy(1, 4, 7);
        k.retype(4, 3, 5);
        k.move(4, 8 + 8 * 5);
        check.is("the copy is gone by it", 2, k.revoke(8 + 8 * 5));
        check.is("USED by the other one", 0, k.look(1, 1, 4));
    }

    private static void refusals(Check check) {
        check.refuses(Check.STATE, "none is CURRENT", Check.NONE_CURRENT, k -> k.revoke(99));
        check.refuses(Check.ARGUMENT, "revoke(-1)", Check.NEW, k -> k.revoke(-1));
        check.refuses(Check.ARGUMENT, "revoke(72)", Check.NEW, k -> k.revoke(72));
        check.refuses(Check.NOTHING_THERE, "revoke(5)", Check.NEW, k -> k.revoke(5));
        check.refuses(Check.NOTHING_THERE, "revoke(71)", Check.NEW, k -> k.revoke(71));
    }
}
