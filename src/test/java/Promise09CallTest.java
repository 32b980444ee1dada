public final class Promise09CallTest {
    public static void main(String[] args) {
        Check check = new Check("promise 9, call");
        callsOneThatReceives(check);
        callsWait(check);
        callsServers(check);
        aServersRefusalIsAnAnswer(check);
        noCapabilityGoesWithIt(check);
        eachSumOfRights(check);
        refusals(check);
        check.end();
    }

    private static void callsOneThatReceives(Check check) {
        check.about("one receives: it gets it and is READY, the caller ASKING: 0");
        CapKernel k = new CapKernel();
        k.receive(2, 5);
        k.mint(2, 4, 2, 21);
        check.is("call of one that receives", 0, k.call(4, 500));
        check.heard(k, 1, 0, 0, 500, 21, -1);
        check.heard(k, 2, 3, 0, 0, 0, 0);
        check.is("the receiver is behind 3", 3, k.current());
        k.pass();
        check.is("it answers", 2, k.answer(-7));
        check.heard(k, 2, 0, 0, -7, 0, -1);
    }

    private static void callsWait(Check check) {
        check.about("else the caller is CALLING: 1");
        CapKernel k = new CapKernel();
        k.mint(2, 4, 2, 3);
        check.is("nobody receives", 1, k.call(4, 11));
        check.heard(k, 1, 2, 0, 0, 0, 0);
        check.is("2 behind it", 1, k.call(2, 12));
        check.is("the first call", 0, k.receive(2, 5));
        check.heard(k, 3, 0, 0, 11, 3, -1);
        check.heard(k, 1, 3, 0, 0, 0, 0);
        check.is("2 is CALLING still", 2, k.thread(2, 0));
    }

    private static void callsServers(Check check) {
        check.about("a server: its answer becomes the WORD (OUTCOME OK, BADGE 0, ADDRESS -1), 2 comes");
        CapKernel k = new CapKernel();
        k.retype(1, 1, 4);
        Check.share(k, 4, 5);
        Check.passTo(k, 2).mint(2, 6, 7, 9);
        Check.passTo(k, 1).receive(2, 7);
        Check.passTo(k, 2).send(6, 3, 3);
        check.heard(k, 1, 0, 0, 3, 9, 7);
        check.is("NAMES", 2, Check.passTo(k, 1).call(0, 106));
        check.heard(k, 1, 0, 0, 0, 0, -1);
        check.is("FILES", 2, k.call(6, 1203));
        check.heard(k, 1, 0, 0, 0, 0, -1);
        check.is("FILES", 2, k.call(6, 203));
        check.heard(k, 1, 0, 0, 9, 0, -1);
        check.is("the caller goes on", 1, k.current());
        Check.passTo(k, 2).receive(5, -1);
        Check.passTo(k, 1).revoke(1);
        check.is("OUTCOME of 2", 1, k.thread(2, 1));
        check.is("a server", 2, Check.passTo(k, 2).call(0, 107));
        check.heard(k, 2, 0, 0, 0, 0, -1);
    }

    private static void aServersRefusalIsAnAnswer(Check check) {
        check.about("a server: its answer becomes the WORD (OUTCOME OK, BADGE 0, ADDRESS -1), 2 comes");
        CapKernel k = new CapKernel();
        int[] words = {-1, 102, 199, 200, Integer.MIN_VALUE, Integer.MAX_VALUE};
        int[] due = {-2, -1, -1, -2, -2, -2};
        for (int i = 0; i < words.length; i++) {
            check.is("NAMES, " + words[i], 2, k.call(0, words[i]));
            check.heard(k, 1, 0, 0, due[i], 0, -1);
        }
    }

    private static void noCapabilityGoesWithIt(Check check) {
        check.about("Calls by an ENDPOINT's capability (WRITE), no capability going with it");
        CapKernel k = new CapKernel();
        k.send(2, 1, 3);
        k.receive(2, 7);
        Check.passTo(k, 3).receive(2, 6);
        check.is("1 calls, after a send with one", 0, Check.passTo(k, 1).call(2, 4));
        check.heard(k, 3, 0, 0, 4, 0, -1);
        check.isEmptyAt(k, 3, 6);
        check.takes("without GRANT", n -> n.copy(2, 4, 2), n -> n.call(4, 0));
    }

    private static void eachSumOfRights(Check check) {
        check.about("Calls by an ENDPOINT's capability (WRITE)");
        for (int rights = 0; rights <= 7; rights++) {
            int some = rights;
            Check.Setup setup = k -> k.copy(2, 4, some);
            if ((rights & 2) != 0) {
                check.takes("RIGHTS " + rights, setup, k -> k.call(4, 0));
            } else {
                check.refuses(Check.RIGHTS, "RIGHTS " + rights, setup, k -> k.call(4, 0));
            }
        }
        check.refuses(Check.RIGHTS, "NAMES without WRITE", k -> k.copy(0, 4, 5), k -> k.call(4, 105));
        check.refuses(Check.RIGHTS, "FILES without WRITE", k -> {
            k.call(0, 104);
            k.copy(4, 5, 5);
        }, k -> k.call(5, 300));
    }

    private static void refusals(Check check) {
        check.about("Calls by an ENDPOINT's capability");
        check.refuses(Check.STATE, "none is CURRENT", Check.NONE_CURRENT, k -> k.call(-1, 0));
        check.refuses(Check.ARGUMENT, "at -1", Check.NEW, k -> k.call(-1, 0));
        check.refuses(Check.ARGUMENT, "at 72", Check.NEW, k -> k.call(72, 0));
        check.refuses(Check.NOTHING_THERE, "an empty SLOT", Check.NEW, k -> k.call(7, 0));
        check.refuses(Check.NOTHING_THERE, "no SLOT", Check.NEW, k -> k.call(8, 0));
        check.refuses(Check.ARGUMENT, "an UNTYPED", Check.NEW, k -> k.call(1, 0));
        check.refuses(Check.ARGUMENT, "a NOTIFICATION", Check.NEW, k -> k.call(3, 0));
        check.refuses(Check.ARGUMENT, "a TABLE", k -> k.retype(1, 3, 4), k -> k.call(4, 0));
    }
}
