public final class Promise06RevokeTest {
    public static void main(String[] args) {
        Check check = new Check("promise 6, revoke");
        nothingCame(check);
        takesAllThatCame(check);
        takesWhatLiesInTables(check);
        atOtherThreads(check);
        youngestFirst(check);
        stopsWhenItselfIsGone(check);
        usedIsNoughtAgain(check);
        usedStaysWithObjectsLeft(check);
        usedOfOthersStays(check);
        usedOfOneThatOutlivesItsCapability(check);
        refusals(check);
        check.end();
    }

    private static void nothingCame(Check check) {
        check.about("till there is none");
        CapKernel k = new CapKernel();
        for (int slot = 0; slot < 4; slot++) {
            check.is("revoke(" + slot + ")", 0, k.revoke(slot));
        }
        check.is("capabilities", 12, k.count(0));
        k.copy(2, 4, 0);
        check.is("of one without RIGHTS", 0, k.revoke(4));
        k.copy(4, 5, 0);
        check.is("of one without RIGHTS", 1, k.revoke(4));
    }

    private static void takesAllThatCame(Check check) {
        check.about("All that CAME OF the capability is gone");
        CapKernel k = new CapKernel();
        k.copy(2, 4, 7);
        k.mint(4, 5, 7, 8);
        k.copy(5, 6, 7);
        check.is("of a copy", 2, k.revoke(4));
        check.is("capabilities", 13, k.count(0));
        check.is("of the first", 1, k.revoke(2));
        check.is("again", 0, k.revoke(2));
        check.is("it stays itself", 1, k.look(1, 2, 0));
        check.is("the others' for the same ENDPOINT stay", 1, k.look(2, 2, 0));
    }

    private static void takesWhatLiesInTables(Check check) {
        check.about("how many capabilities are gone by that in all");
        CapKernel k = new CapKernel();
        k.retype(1, 3, 4);
        k.copy(0, Check.in(4, 0), 7);
        k.copy(2, Check.in(4, 1), 7);
        k.retype(1, 1, Check.in(4, 2));
        check.is("the TABLE with what did not come of the UNTYPED", 4, k.revoke(1));
        check.is("capabilities", 12, k.count(0));
        check.is("CAME OF the ENDPOINT's", 0, k.look(1, 2, 3));
        k = new CapKernel();
        k.retype(1, 3, 4);
        k.copy(3, Check.in(4, 0), 7);
        check.is("only what came of it, not the TABLE where it lies", 1, k.revoke(3));
        check.looks(k, 1, 4, 3, 7, 0, 0, 0);
    }

    private static void atOtherThreads(Check check) {
        check.about("All that CAME OF the capability is gone");
        CapKernel k = new CapKernel();
        k.copy(3, 4, 3);
        Check.share(k, 4, 7);
        Check.passTo(k, 2).copy(7, 6, 1);
        check.is("by whom it is passed on makes no difference", 3, Check.passTo(k, 1).revoke(4));
        check.isEmptyAt(k, 2, 7);
        check.isEmptyAt(k, 2, 6);
        check.isEmptyAt(k, 3, 7);
        check.is("itself", 3, k.look(1, 4, 1));
    }

    private static void youngestFirst(Check check) {
        check.about("(each time the youngest, the one made last, till there is none, or the capability itself is gone by"
                + " it)");
        for (int older = 2; older <= 3; older++) {
            CapKernel k = new CapKernel();
            k.retype(1, 1, 4);
            k.retype(1, 2, 5);
            Check.share(k, 4, 4);
            Check.share(k, 5, 5);
            Check.passTo(k, older).receive(4, -1);
            Check.passTo(k, 5 - older).await(5);
            check.is("the copies, so that 1 alone has both objects", 4, k.revoke(4) + k.revoke(5));
            check.is("the older object has been waited at for longer", 2, k.revoke(1));
            check.heard(k, older, 0, 1, 0, 0, 5);
            check.heard(k, 5 - older, 0, 1, 0, 0, 5);
            check.is("the younger object first", 5 - older, k.pass());
            check.is("then the older", older, k.pass());
        }
    }

    private static void stopsWhenItselfIsGone(Check check) {
        check.about("or the capability itself is gone by it");
        CapKernel k = new CapKernel();
        k.retype(1, 1, 4);
        k.retype(1, 3, 5);
        k.retype(1, 1, 6);
        k.move(1, Check.in(5, 1));
        check.is("itself in a TABLE that came of it", 3, k.revoke(Check.in(5, 1)));
        check.is("what is older is left", 1, k.look(1, 4, 0));
        check.is("objects still there", 1, k.count(2));
        check.is("capabilities", 12, k.count(0));
        k = new CapKernel();
        k.retype(1, 3, 5);
        k.move(1, Check.in(5, 0));
        k.copy(2, Check.in(5, 7), 7);
        check.is("the TABLE with all in it", 3, k.revoke(Check.in(5, 0)));
        check.is("capabilities", 11, k.count(0));
    }

    private static void usedIsNoughtAgain(Check check) {
        check.about("Of an UNTYPED with no objects left that were made of it: USED is 0 then.");
        CapKernel k = new CapKernel();
        k.retype(1, 3, 4);
        k.retype(1, 0, 5);
        k.retype(5, 2, 6);
        check.is("USED", 8, k.look(1, 1, 4));
        check.is("of the smaller UNTYPED", 1, k.revoke(5));
        check.is("its USED", 0, k.look(1, 5, 4));
        check.is("USED of the greater", 8, k.look(1, 1, 4));
        check.is("of the greater", 2, k.revoke(1));
        check.is("USED", 0, k.look(1, 1, 4));
        for (int slot = 4; slot < 8; slot++) {
            check.is("all of SIZE 16 anew", slot, k.retype(1, 3, slot));
        }
        k = new CapKernel();
        k.retype(1, 1, 4);
        k.delete(4);
        check.is("nothing CAME OF it any more", 0, k.revoke(1));
        check.is("USED", 0, k.look(1, 1, 4));
    }

    private static void usedStaysWithObjectsLeft(Check check) {
        check.about("Of an UNTYPED with no objects left that were made of it: USED is 0 then.");
        CapKernel k = new CapKernel();
        k.retype(1, 1, 4);
        k.copy(1, 5, 7);
        k.retype(5, 2, 6);
        check.is("of the copy", 1, k.revoke(5));
        check.is("an object is left of it", 2, k.look(1, 1, 4));
        k.delete(4);
        check.is("of the copy, no object left", 0, k.revoke(5));
        check.is("USED", 0, k.look(1, 1, 4));
    }

    private static void usedOfOthersStays(Check check) {
        check.about("Of an UNTYPED with no objects left that were made of it: USED is 0 then.");
        CapKernel k = new CapKernel();
        k.retype(1, 1, 4);
        k.copy(4, 5, 7);
        k.delete(4);
        check.is("of a capability for its object", 0, k.revoke(5));
        check.is("USED", 1, k.look(1, 1, 4));
        k.delete(5);
        k.revoke(2);
        check.is("of another capability", 1, k.look(1, 1, 4));
        Check.passTo(k, 2).revoke(1);
        check.is("of another's UNTYPED", 1, k.look(1, 1, 4));
        k = new CapKernel();
        k.signal(3);
        k.revoke(3);
        check.is("BITS stay", 1, k.look(1, 3, 4));
    }

    private static void usedOfOneThatOutlivesItsCapability(Check check) {
        check.about("Of an UNTYPED with no objects left that were made of it: USED is 0 then.");
        CapKernel k = new CapKernel();
        k.copy(1, 4, 7);
        k.retype(4, 3, 5);
        k.move(4, Check.in(5, 0));
        check.is("the copy is gone by it", 2, k.revoke(Check.in(5, 0)));
        check.is("USED by the other one", 0, k.look(1, 1, 4));
    }

    private static void refusals(Check check) {
        check.about("ADDRESSES lead to a SLOT, those of capabilities to one that has one");
        check.refuses(Check.STATE, "none is CURRENT", Check.NONE_CURRENT, k -> k.revoke(99));
        check.refuses(Check.ARGUMENT, "revoke(-1)", Check.NEW, k -> k.revoke(-1));
        check.refuses(Check.ARGUMENT, "revoke(72)", Check.NEW, k -> k.revoke(72));
        check.refuses(Check.NOTHING_THERE, "revoke(5)", Check.NEW, k -> k.revoke(5));
        check.refuses(Check.NOTHING_THERE, "revoke(71)", Check.NEW, k -> k.revoke(71));
    }
}
