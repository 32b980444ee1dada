/** NAMES, FILES and the DRIVER, as the terms give them. */
public final class ServersTest {
    private static final int FILES = 6;

    public static void main(String[] args) {
        Check check = new Check("terms, servers");
        names(check);
        filesKeepCells(check);
        filesAreTheBadges(check);
        blocksRunOut(check);
        leastFreeBlock(check);
        otherWords(check);
        check.end();
    }

    private static int ask(CapKernel k, int at, int word) {
        int how = k.call(at, word);
        return how == 2 ? k.thread(k.current(), 2) : -100 - how;
    }

    private static void names(Check check) {
        CapKernel k = new CapKernel();
        check.is("an empty SLOT", 0, ask(k, 0, 107));
        int[] due = {1, 2, 1, 0, 0};
        for (int what = 0; what < due.length; what++) {
            check.is("look(1, 7, " + what + ")", due[what], k.look(1, 7, what));
        }
        check.is("it is DERIVED from none", 0, k.look(1, 0, 3));
        check.is("a full SLOT", -1, ask(k, 0, 107));
        check.is("no SLOT", -1, ask(k, 0, 108));
        check.is("no ADDRESS", -1, ask(k, 0, 172));
        check.is("no ADDRESS", -1, ask(k, 0, 199));
        check.is("capabilities", 13, k.count(0));
        k.retype(1, 3, 4);
        check.is("a SLOT of a TABLE", 0, ask(k, 0, 147));
        check.is("kind", 1, k.look(1, 47, 0));
        k.pass();
        check.is("2's own SLOT", 0, ask(k, 0, 107));
        check.is("the BADGE of the call", 2, k.look(2, 7, 2));
    }

    private static CapKernel withFiles() {
        CapKernel k = new CapKernel();
        k.call(0, 100 + FILES);
        return k;
    }

    private static void filesKeepCells(Check check) {
        CapKernel k = withFiles();
        check.is("READ, not there yet", 0, ask(k, FILES, 200));
        check.is("no block READ for it", 0, k.count(3));
        check.is("no block taken for it", 6, k.count(5));
        check.is("WRITE 0 into cell 5 of file 1", 0, ask(k, FILES, 313));
        check.is("a block is taken", 5, k.count(5));
        check.is("READ once", 1, k.count(3));
        check.is("WRITTEN twice", 2, k.count(4));
        check.is("WRITE 9 into cell 7 of file 1", 0, ask(k, FILES, 1215));
        check.is("READ", 2, k.count(3));
        check.is("WRITTEN", 3, k.count(4));
        check.is("READ cell 7", 9, ask(k, FILES, 215));
        check.is("READ cell 6", 0, ask(k, FILES, 214));
        check.is("cell 7 of file 0 is another's", 0, ask(k, FILES, 207));
        check.is("READ", 4, k.count(3));
        check.is("file 1 is gone", 0, ask(k, FILES, 1301));
        check.is("its block is free", 6, k.count(5));
        check.is("it is not there", -1, ask(k, FILES, 1301));
        check.is("READ of none", 0, ask(k, FILES, 215));
        check.is("WRITE, anew", 0, ask(k, FILES, 410));
        check.is("all other cells are 0", 0, ask(k, FILES, 215));
        check.is("the cell", 1, ask(k, FILES, 210));
        check.is("gone neither READS nor WRITES", 5, k.count(4));
    }

    private static void filesAreTheBadges(Check check) {
        CapKernel k = withFiles();
        ask(k, FILES, 700);
        k.pass();
        ask(k, 0, 100 + FILES);
        check.is("2 has files of its own", 0, ask(k, FILES, 200));
        ask(k, FILES, 800);
        check.is("its value", 5, ask(k, FILES, 200));
        k.pass();
        check.is("1's value by its BADGE at 3", 1, k.receive(2, 7));
        while (k.current() != 1) {
            k.pass();
        }
        k.send(2, 0, FILES);
        while (k.current() != 3) {
            k.pass();
        }
        check.is("3 READS 1's file", 4, ask(k, 7, 200));
    }

    private static void blocksRunOut(Check check) {
        CapKernel k = withFiles();
        for (int file = 0; file < 4; file++) {
            check.is("1's file " + file, 0, ask(k, FILES, 500 + 8 * file));
        }
        k.pass();
        ask(k, 0, 100 + FILES);
        check.is("2's file 0", 0, ask(k, FILES, 600));
        check.is("2's file 1", 0, ask(k, FILES, 608));
        check.is("blocks free", 0, k.count(5));
        int read = k.count(3);
        int written = k.count(4);
        check.is("2's file 2", -3, ask(k, FILES, 616));
        check.is("nothing READ", read, k.count(3));
        check.is("nothing WRITTEN", written, k.count(4));
        check.is("a file that is there", 0, ask(k, FILES, 709));
        check.is("its cell", 4, ask(k, FILES, 209));
        ask(k, FILES, 1300);
        check.is("2's file 2 now", 0, ask(k, FILES, 616));
        check.is("its cell", 3, ask(k, FILES, 216));
    }

    private static void leastFreeBlock(Check check) {
        CapKernel k = withFiles();
        ask(k, FILES, 400);
        ask(k, FILES, 508);
        ask(k, FILES, 1300);
        check.is("blocks free", 5, k.count(5));
        check.is("the freed block", 0, ask(k, FILES, 617));
        check.is("file 1 keeps its block", 2, ask(k, FILES, 208));
        check.is("file 2's first cell is not what file 0 left", 0, ask(k, FILES, 216));
        check.is("file 2's cell", 3, ask(k, FILES, 217));
    }

    private static void otherWords(Check check) {
        CapKernel k = withFiles();
        int[] names = {0, 7, 99, 200, 205, 1000, 10107, -1, -107, -193, Integer.MIN_VALUE, Integer.MAX_VALUE};
        for (int word : names) {
            check.is("NAMES, " + word, -2, ask(k, 0, word));
        }
        int[] files = {0, 50, 100, 107, 199, 232, 299, 332, 399, 1232, 1299, 1304, 1399, 1400, 2200, -1, -200, -1300,
            Integer.MIN_VALUE, Integer.MAX_VALUE};
        for (int word : files) {
            check.is("FILES, " + word, -2, ask(k, FILES, word));
        }
        check.is("blocks free", 6, k.count(5));
        check.is("capabilities", 13, k.count(0));
        check.is("the last cell", 0, ask(k, FILES, 1231));
        check.is("its value", 9, ask(k, FILES, 231));
    }
}
