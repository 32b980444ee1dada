public final class Promise14PassTest {
    public static void main(String[] args) {
        Check check = new Check("promise 14, pass");
        check.about("The CURRENT thread goes to the end of the LINE: which one is CURRENT then.");
        CapKernel k = new CapKernel();
        check.is("2 is next", 2, k.pass());
        check.is("then 3", 3, k.pass());
        check.is("then 1", 1, k.pass());
        k.priority(1, 2);
        check.is("the greatest PRIORITY stays CURRENT", 1, k.pass());
        k.priority(1, 1);
        check.is("but it went to the end", 2, k.current());
        k.priority(3, 0);
        check.is("the lesser PRIORITY is left out", 1, k.pass());
        k.await(3);
        check.is("alone of its PRIORITY", 2, k.pass());
        k.await(3);
        check.is("alone", 3, k.pass());
        changesNothingElse(check);
        check.about("there is a CURRENT thread: IllegalStateException");
        check.refuses(Check.STATE, "none is CURRENT", Check.NONE_CURRENT, CapKernel::pass);
        check.end();
    }

    private static void changesNothingElse(Check check) {
        CapKernel k = new CapKernel();
        k.mint(2, 4, 7, 3);
        k.call(0, 105);
        String before = Check.stateOf(k);
        k.pass();
        k.pass();
        k.pass();
        if (!Check.stateOf(k).equals(before)) {
            check.tell("three passes changed more than the LINE");
        }
    }
}
