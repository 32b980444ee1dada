/** NAMES, FILES and the DRIVER, as the terms give them. */
public final class ServersTest {
    private static final int FILES = 6;

    public static void main(String[] args) {
        Check check = new Check("terms, servers");
        onlyACallReachesThem(check);
        whoeverIsCurrent(check);
        names(check);
        namesNeedsAnEmptySlot(check);
        namesOthers(check);
        eachCell(check);
        eachValue(check);
        notThereYet(check);
        aFileThatIsGone(check);
        filesAreTheBadges(check);
        blocksRunOut(check);
        leastFreeBlock(check);
        filesOthers(check);
        readsAndWrites(check);
        check.end();
    }

    private static int ask(CapKernel k, int at, int word) {
        int how = k.call(at, word);
        return how == 2 ? k.thread(k.current(), 2) : -100 - how;
    }

    private static CapKernel withFiles() {
        CapKernel k = new CapKernel();
        k.call(0, 100 + FILES);
        return k;
    }

    private static void onlyACallReachesThem(Check check) {
        check.about("only a call reaches them (a send to NAMES or FILES is IllegalStateException, a receive too)");
        Check.Setup files = k -> k.call(0, 100 + FILES);
        check.refuses(Check.STATE, "send to NAMES", Check.NEW, k -> k.send(0, 105, -1));
        check.refuses(Check.STATE, "send to FILES", files, k -> k.send(FILES, 300, -1));
        check.refuses(Check.STATE, "send to a copy's NAMES", k -> k.copy(0, 5, 2), k -> k.send(5, 105, -1));
        // No capability for them has READ or GRANT, so that these are looked at, and refused, before.
        check.refuses(Check.RIGHTS, "receive from NAMES", Check.NEW, k -> k.receive(0, -1));
        check.refuses(Check.RIGHTS, "receive from FILES", files, k -> k.receive(FILES, -1));
        check.refuses(Check.RIGHTS, "send to NAMES with one", Check.NEW, k -> k.send(0, 105, 3));
        check.refuses(Check.RIGHTS, "send to FILES with one", files, k -> k.send(FILES, 300, 3));
    }

    private static void whoeverIsCurrent(Check check) {
        check.about("They answer at once, whoever the CURRENT thread is");
        for (int thread = 1; thread <= 3; thread++) {
            CapKernel k = Check.passTo(new CapKernel(), thread);
            check.is("NAMES", 0, ask(k, 0, 107));
            check.looks(k, thread, 7, 1, 2, thread, 0, 0);
            check.is("FILES", 0, ask(k, 7, 800));
            check.is("FILES", 5, ask(k, 7, 200));
            check.heard(k, thread, 0, 0, 5, 0, -1);
            check.is("it stays CURRENT", thread, k.current());
        }
        CapKernel k = new CapKernel();
        k.await(3);
        k.receive(2, -1);
        check.is("also if the others wait", 0, ask(k, 0, 107));
    }

    private static void names(Check check) {
        check.about("the number is an empty SLOT's ADDRESS of the caller: a capability for the FILES ENDPOINT (WRITE, with"
                + " the BADGE of the call) is put there: answer 0");
        CapKernel k = new CapKernel();
        for (int slot = 4; slot < 8; slot++) {
            check.is("an empty SLOT", 0, ask(k, 0, 100 + slot));
            check.looks(k, 1, slot, 1, 2, 1, 0, 0);
        }
        check.is("capabilities", 16, k.count(0));
        check.is("they did not come of the one for NAMES", 0, k.look(1, 0, 3));
        k = new CapKernel();
        k.retype(1, 3, 7);
        for (int slot = 0; slot < 8; slot++) {
            check.is("a SLOT of a TABLE", 0, ask(k, 0, 100 + Check.in(7, slot)));
            check.looks(k, 1, Check.in(7, slot), 1, 2, 1, 0, 0);
        }
        k = new CapKernel();
        k.receive(2, 7);
        check.is("2 lends its NAMES to 1", 0, k.send(2, 0, 0));
        check.is("1 asks by it", 0, ask(Check.passTo(k, 1), 7, 106));
        check.looks(k, 1, 6, 1, 2, 2, 0, 0);
    }

    private static void namesNeedsAnEmptySlot(Check check) {
        check.about("it is not an empty SLOT: answer -1");
        CapKernel k = new CapKernel();
        for (int slot = 0; slot < 4; slot++) {
            check.is("a full SLOT", -1, ask(k, 0, 100 + slot));
        }
        for (int number = 8; number <= 99; number++) {
            check.is("no SLOT at " + number, -1, ask(k, 0, 100 + number));
        }
        check.is("nothing was put anywhere", 12, k.count(0));
        k.retype(1, 3, 4);
        k.copy(2, Check.in(4, 3), 7);
        check.is("a full SLOT of a TABLE", -1, ask(k, 0, 100 + Check.in(4, 3)));
        check.is("behind the TABLE", -1, ask(k, 0, 100 + Check.in(4, 8)));
        check.is("before the TABLE", -1, ask(k, 0, 100 + Check.in(4, -1)));
        check.looks(k, 1, Check.in(4, 3), 1, 7, 0, 0, 0);
        check.is("capabilities", 14, k.count(0));
    }

    private static void namesOthers(Check check) {
        check.about("(A WORD below 0 is others, here and for NAMES.)");
        int[] far = {2000, 10104, 10107, -104, -107, -193, -196, Integer.MIN_VALUE, Integer.MIN_VALUE + 107,
            Integer.MAX_VALUE, Integer.MAX_VALUE - 40};
        CapKernel k = new CapKernel();
        for (int word : far) {
            check.is("NAMES, " + word, -2, ask(k, 0, word));
        }
        for (int word = -110; word < 100; word++) {
            check.is("NAMES, " + word, -2, ask(k, 0, word));
        }
        check.about("it is not an empty SLOT: answer -1. Others: -2.");
        k = new CapKernel();
        for (int operation = 2; operation <= 15; operation++) {
            for (int number : new int[] {0, 4, 7, 99}) {
                check.is("NAMES, " + operation + " " + number, -2, ask(k, 0, 100 * operation + number));
            }
        }
        check.is("nothing was put anywhere", 12, k.count(0));
        check.is("the disk is untouched", 6, k.count(5));
    }

    private static void eachCell(Check check) {
        check.about("READ cell n % 8 of file n / 8 (n 0 .. 31): its value");
        CapKernel k = withFiles();
        for (int n = 0; n <= 31; n++) {
            check.is("WRITE cell " + n, 0, ask(k, FILES, 100 * (3 + (n * 7 + 1) % 10) + n));
        }
        for (int n = 0; n <= 31; n++) {
            check.is("READ cell " + n, (n * 7 + 1) % 10, ask(k, FILES, 200 + n));
        }
        check.is("four files", 2, k.count(5));
    }

    private static void eachValue(Check check) {
        check.about("Operation 3 .. 12: the value operation - 3 is WRITTEN into cell n % 8 of file n / 8: answer 0");
        CapKernel k = withFiles();
        for (int value = 0; value <= 9; value++) {
            check.is("WRITE " + value, 0, ask(k, FILES, 100 * (3 + value) + 31));
            check.is("READ " + value, value, ask(k, FILES, 231));
        }
        check.is("one file", 5, k.count(5));
    }

    private static void notThereYet(Check check) {
        check.about("0 if the file is not there yet");
        CapKernel k = withFiles();
        for (int n = 0; n <= 31; n++) {
            check.is("READ " + n, 0, ask(k, FILES, 200 + n));
        }
        check.is("no block READ", 0, k.count(3));
        check.is("no block WRITTEN", 0, k.count(4));
        check.is("no block taken", 6, k.count(5));
        check.about("a file that is not there yet gets a free block of the DISK first, all 0");
        check.is("0 is a value too", 0, ask(k, FILES, 313));
        check.is("a block is taken", 5, k.count(5));
        for (int cell = 8; cell <= 15; cell++) {
            check.is("READ cell " + cell, 0, ask(k, FILES, 200 + cell));
        }
    }

    private static void aFileThatIsGone(Check check) {
        check.about("Operation 13: file n (0 .. 3) is gone, its block free: 0; it is not there: -1");
        CapKernel k = withFiles();
        for (int file = 0; file <= 3; file++) {
            check.is("not there", -1, ask(k, FILES, 1300 + file));
            ask(k, FILES, 1200 + 8 * file + 7);
            ask(k, FILES, 1200 + 8 * file);
            check.is("its block taken", 5, k.count(5));
            check.is("gone", 0, ask(k, FILES, 1300 + file));
            check.is("its block free", 6, k.count(5));
            check.is("not there any more", -1, ask(k, FILES, 1300 + file));
            check.is("READ", 0, ask(k, FILES, 200 + 8 * file));
            ask(k, FILES, 400 + 8 * file);
            check.is("anew, and all 0", 0, ask(k, FILES, 200 + 8 * file + 7));
            check.is("but what was WRITTEN", 1, ask(k, FILES, 200 + 8 * file));
            ask(k, FILES, 1300 + file);
        }
        ask(k, FILES, 400);
        ask(k, FILES, 508);
        check.is("one of two", 0, ask(k, FILES, 1300));
        check.is("the other stays", 2, ask(k, FILES, 208));
    }

    private static void filesAreTheBadges(Check check) {
        check.about("each BADGE has FILES 0 .. 3 of 8 cells");
        CapKernel k = withFiles();
        ask(k, FILES, 700);
        k.pass();
        ask(k, 0, 100 + FILES);
        check.is("2 has files of its own", 0, ask(k, FILES, 200));
        check.is("and none of 1's to take away", -1, ask(k, FILES, 1300));
        ask(k, FILES, 800);
        check.is("its value", 5, ask(k, FILES, 200));
        k.pass();
        check.is("3 receives", 1, k.receive(2, 7));
        Check.passTo(k, 1).send(2, 0, FILES);
        check.is("by 1's BADGE 3 READS 1's file", 4, ask(Check.passTo(k, 3), 7, 200));
        check.is("and takes it away", 0, ask(k, 7, 1300));
        check.is("1 has it no more", 0, ask(Check.passTo(k, 1), FILES, 200));
    }

    private static void blocksRunOut(Check check) {
        check.about("there is none: answer -3");
        CapKernel k = withFiles();
        for (int file = 0; file < 4; file++) {
            check.is("1's file " + file, 0, ask(k, FILES, 500 + 8 * file));
        }
        k.pass();
        ask(k, 0, 100 + FILES);
        check.is("2's file 0, the fifth", 0, ask(k, FILES, 600));
        check.is("2's file 1, the sixth", 0, ask(k, FILES, 608));
        check.is("blocks free", 0, k.count(5));
        int read = k.count(3);
        int written = k.count(4);
        check.is("2's file 2", -3, ask(k, FILES, 616));
        check.is("2's file 3", -3, ask(k, FILES, 1231));
        check.is("nothing READ", read, k.count(3));
        check.is("nothing WRITTEN", written, k.count(4));
        check.is("READ of what is not there", 0, ask(k, FILES, 216));
        check.is("it is not there", -1, ask(k, FILES, 1302));
        check.is("a file that is there", 0, ask(k, FILES, 709));
        check.is("its cell", 4, ask(k, FILES, 209));
        check.is("other numbers", -2, ask(k, FILES, 332));
        ask(k, FILES, 1300);
        check.is("2's file 2 now", 0, ask(k, FILES, 616));
        check.is("its cell", 3, ask(k, FILES, 216));
        check.is("and none more", -3, ask(k, FILES, 300));
    }

    private static void leastFreeBlock(Check check) {
        check.about("the least free block is taken");
        // Which block it is cannot be seen; that it is a free one can.
        CapKernel k = withFiles();
        for (int file = 0; file < 4; file++) {
            ask(k, FILES, 100 * (4 + file) + 8 * file);
        }
        ask(k, FILES, 1302);
        ask(k, FILES, 1300);
        check.is("blocks free", 4, k.count(5));
        check.is("a new file 2", 0, ask(k, FILES, 1117));
        check.is("its first cell is not what another left", 0, ask(k, FILES, 216));
        check.is("its own cell", 8, ask(k, FILES, 217));
        check.is("a new file 0", 0, ask(k, FILES, 1201));
        check.is("its first cell is not what another left", 0, ask(k, FILES, 200));
        check.is("file 1 keeps its block", 2, ask(k, FILES, 208));
        check.is("file 3 keeps its block", 4, ask(k, FILES, 224));
        check.is("blocks free", 2, k.count(5));
    }

    private static void filesOthers(Check check) {
        check.about("Others, and other numbers: -2. (A WORD below 0 is others, here and for NAMES.)");
        for (int operation = 0; operation <= 16; operation++) {
            CapKernel k = withFiles();
            for (int number = 0; number <= 99; number++) {
                boolean isCell = operation >= 2 && operation <= 12 && number <= 31;
                boolean isFile = operation == 13 && number <= 3;
                if (!isCell && !isFile) {
                    check.is("FILES, " + operation + " " + number, -2, ask(k, FILES, 100 * operation + number));
                }
            }
            check.is("the disk is untouched", 6, k.count(5));
            check.is("nothing READ", 0, k.count(3));
        }
        CapKernel k = withFiles();
        int[] far = {-1, -99, -100, -200, -231, -300, -1300, -1301, 20000, 20031, 1000200, Integer.MIN_VALUE,
            Integer.MIN_VALUE + 200, Integer.MIN_VALUE + 348, Integer.MAX_VALUE, Integer.MAX_VALUE - 47};
        for (int word : far) {
            check.is("FILES, " + word, -2, ask(k, FILES, word));
        }
        check.is("the disk is untouched", 6, k.count(5));
    }

    private static void readsAndWrites(Check check) {
        check.about("FILES READS a block for each reading of a file that is there; for WRITING it READS and then WRITES"
                + " it, a new file's block is WRITTEN once more before, with zeros");
        CapKernel k = withFiles();
        readAndWritten(check, k, 200, 0, 0);
        readAndWritten(check, k, 1300, 0, 0);
        readAndWritten(check, k, 301, 1, 2);
        readAndWritten(check, k, 301, 2, 3);
        readAndWritten(check, k, 1207, 3, 4);
        readAndWritten(check, k, 200, 4, 4);
        readAndWritten(check, k, 208, 4, 4);
        readAndWritten(check, k, 308, 5, 6);
        readAndWritten(check, k, 1300, 5, 6);
        readAndWritten(check, k, 200, 5, 6);
        readAndWritten(check, k, 1300, 5, 6);
        readAndWritten(check, k, 400, 6, 8);
        readAndWritten(check, k, 232, 6, 8);
        readAndWritten(check, k, -200, 6, 8);
    }

    private static void readAndWritten(Check check, CapKernel k, int word, int read, int written) {
        k.call(FILES, word);
        check.is("blocks READ after " + word, read, k.count(3));
        check.is("blocks WRITTEN after " + word, written, k.count(4));
    }
}
