import java.util.ArrayList;
import java.util.Arrays;
import java.util.List;
import java.util.Random;

/**
 * Runs of 512 calls, all that the document allows, on CapKernel and on Model: each call must answer, or throw, the
 * same on both. The seeds are fixed, so that a run that fails does so again.
 */
public final class ModelRunsTest {
    private static final int RUNS = 4000;
    private static final int CALLS = 512;
    private static final String[] NAMES = {"copy", "mint", "move", "delete", "revoke", "retype", "send", "call",
        "receive", "answer", "signal", "await", "pass", "priority", "current", "thread", "look", "count"};
    private static final int[] WEIGHTS = {10, 5, 6, 3, 3, 10, 9, 12, 9, 6, 5, 4, 5, 2, 2, 12, 14, 6};
    private static final int DELETE = 3;
    private static final int RETYPE = 5;
    private static final int SEND = 6;
    private static final int CALL = 7;
    private static final int RECEIVE = 8;
    private static final int AWAIT = 11;
    private static final int PASS = 12;
    // Runs begin with nothing, or with objects of thread 1's UNTYPED that the others can reach too.
    private static final List<List<int[]>> OPENINGS = List.of(
            List.of(), sharing(1, 2, 3), sharing(3, 1), sharing(2, 0, 1));

    private final Random random;
    private final Model model = new Model();
    private final CapKernel kernel = new CapKernel();

    private ModelRunsTest(int seed) {
        random = new Random(seed);
    }

    public static void main(String[] args) {
        Check check = new Check("runs beside the model");
        for (int seed = 0; seed < RUNS; seed++) {
            new ModelRunsTest(seed).run(check, seed);
        }
        check.end();
    }

    private void run(Check check, int seed) {
        List<int[]> opening = OPENINGS.get(seed % OPENINGS.size());
        int callsLeftWhenNoneIsCurrent = 20;
        for (int i = 0; i < CALLS && callsLeftWhenNoneIsCurrent > 0; i++) {
            int[] call = i < opening.size() ? opening.get(i) : draw();
            String due = answerOf(call, true);
            String got = answerOf(call, false);
            if (!got.equals(due)) {
                check.tell("seed " + seed + ", call " + i + ": " + NAMES[call[0]]
                        + Arrays.toString(Arrays.copyOfRange(call, 1, 5)) + " answered " + got + ", due is " + due);
                return;
            }
            callsLeftWhenNoneIsCurrent -= model.current() == 0 ? 1 : 0;
        }
    }

    /** Thread 1 makes an object of each kind; copies go to threads 2 and 3, and the first ENDPOINT is gone. */
    private static List<int[]> sharing(int... kinds) {
        List<int[]> calls = new ArrayList<>();
        for (int i = 0; i < kinds.length; i++) {
            int at = 5 + i;
            calls.add(row(RETYPE, 1, kinds[i], at, 0));
            for (int other = 2; other <= 3; other++) {
                calls.add(row(PASS, 0, 0, 0, 0));
                calls.add(row(RECEIVE, 2, at, 0, 0));
                calls.add(row(PASS, 0, 0, 0, 0));
                calls.add(row(SEND, 2, at, at, 0));
            }
            calls.add(row(PASS, 0, 0, 0, 0));
            calls.add(row(PASS, 0, 0, 0, 0));
        }
        for (int thread = 1; thread <= 3; thread++) {
            calls.add(row(DELETE, 2, 0, 0, 0));
            calls.add(row(PASS, 0, 0, 0, 0));
        }
        return calls;
    }

    // What is drawn

    private int[] draw() {
        int[] call = drawOnce();
        for (int again = 0; again < 20 && endsAllAction(call); again++) {
            call = drawOnce();
        }
        return call;
    }

    /** Most runs should go on to the end, so that few of the calls may leave no thread READY. */
    private boolean endsAllAction(int[] call) {
        boolean takes = call[0] == RECEIVE || call[0] == AWAIT;
        boolean mayWait = takes || call[0] == SEND || call[0] == CALL;
        return mayWait && model.ready() == 1 && random.nextInt(40) != 0
                && !model.goesOn(model.current(), call[1], takes);
    }

    private int[] drawOnce() {
        int method = method();
        switch (method) {
            case 0:
            case 1:
            case 2: return row(method, full(-1, 0), empty(), rights(), badge());
            case 3:
            case 4: return row(method, full(-1, 0), 0, 0, 0);
            case 5: return row(method, full(0, 2), small(4), empty(), 0);
            case 6: return row(method, full(1, 6), word(), random.nextBoolean() ? -1 : full(-1, 0), 0);
            case 7: return row(method, full(1, 2), word(), 0, 0);
            case 8: return row(method, full(1, 1), random.nextInt(4) == 0 ? -1 : empty(), 0, 0);
            case 9: return row(method, word(), 0, 0, 0);
            case 10: return row(method, full(2, 2), 0, 0, 0);
            case 11: return row(method, full(2, 1), 0, 0, 0);
            case 13: return row(method, 1 + small(3), small(4), 0, 0);
            case 15: return row(method, 1 + small(3), small(6), 0, 0);
            case 16: return row(method, 1 + small(3), full(-1, 0), small(5), 0);
            case 17: return row(method, small(6), 0, 0, 0);
            default: return row(method, 0, 0, 0, 0);
        }
    }

    private static int[] row(int method, int a, int b, int c, int d) {
        return new int[] {method, a, b, c, d};
    }

    private int method() {
        int draw = random.nextInt(Arrays.stream(WEIGHTS).sum());
        int method = 0;
        while (draw >= WEIGHTS[method]) {
            draw -= WEIGHTS[method];
            method++;
        }
        return method;
    }

    /** Mostly 0 .. bound - 1, at times just outside, and seldom far off. */
    private int small(int bound) {
        int draw = random.nextInt(100);
        if (draw == 0) {
            return random.nextInt();
        }
        return draw < 4 ? (random.nextBoolean() ? -1 : bound) : random.nextInt(bound);
    }

    private int rights() {
        return random.nextInt(3) == 0 ? small(8) : 7;
    }

    private int badge() {
        return random.nextInt(8) == 0 ? 254 + random.nextInt(3) : small(256);
    }

    private int word() {
        int draw = random.nextInt(20);
        if (draw == 0) {
            return random.nextInt();
        }
        if (draw < 3) {
            return random.nextInt(1600) - 100;
        }
        if (draw < 9) {
            return 100 + empty();
        }
        return 100 * (2 + random.nextInt(12)) + (random.nextInt(3) == 0 ? random.nextInt(4) : random.nextInt(34));
    }

    /** An ADDRESS of the CURRENT thread with a capability, mostly for that kind (-1 for any) with those RIGHTS. */
    private int full(int kind, int rights) {
        List<Integer> found = new ArrayList<>();
        int thread = model.current();
        boolean anyRights = random.nextInt(10) == 0;
        for (int at = 0; at < 72 && thread != 0; at++) {
            if (model.isFullSlot(thread, at) && (kind < 0 || model.look(thread, at, 0) == kind)
                    && (anyRights || (model.look(thread, at, 1) & rights) == rights)) {
                found.add(at);
            }
        }
        return oneOf(found);
    }

    private int empty() {
        List<Integer> found = new ArrayList<>();
        int thread = model.current();
        for (int at = 0; at < 72 && thread != 0; at++) {
            if (model.isEmptySlot(thread, at)) {
                found.add(at);
            }
        }
        return oneOf(found);
    }

    private int oneOf(List<Integer> found) {
        return found.isEmpty() || random.nextInt(16) == 0 ? small(72) : found.get(random.nextInt(found.size()));
    }

    // What is answered

    private String answerOf(int[] call, boolean byModel) {
        try {
            return String.valueOf(byModel ? ofModel(call) : ofKernel(call));
        } catch (RuntimeException thrown) {
            return "throws." + thrown.getClass().getSimpleName();
        }
    }

    private int ofModel(int[] c) {
        switch (c[0]) {
            case 0: return model.copy(c[1], c[2], c[3]);
            case 1: return model.mint(c[1], c[2], c[3], c[4]);
            case 2: return model.move(c[1], c[2]);
            case 3: return model.delete(c[1]);
            case 4: return model.revoke(c[1]);
            case 5: return model.retype(c[1], c[2], c[3]);
            case 6: return model.send(c[1], c[2], c[3]);
            case 7: return model.call(c[1], c[2]);
            case 8: return model.receive(c[1], c[2]);
            case 9: return model.answer(c[1]);
            case 10: return model.signal(c[1]);
            case 11: return model.await(c[1]);
            case 12: return model.pass();
            case 13: return model.priority(c[1], c[2]);
            case 14: return model.current();
            case 15: return model.thread(c[1], c[2]);
            case 16: return model.look(c[1], c[2], c[3]);
            default: return model.count(c[1]);
        }
    }

    private int ofKernel(int[] c) {
        switch (c[0]) {
            case 0: return kernel.copy(c[1], c[2], c[3]);
            case 1: return kernel.mint(c[1], c[2], c[3], c[4]);
            case 2: return kernel.move(c[1], c[2]);
            case 3: return kernel.delete(c[1]);
            case 4: return kernel.revoke(c[1]);
            case 5: return kernel.retype(c[1], c[2], c[3]);
            case 6: return kernel.send(c[1], c[2], c[3]);
            case 7: return kernel.call(c[1], c[2]);
            case 8: return kernel.receive(c[1], c[2]);
            case 9: return kernel.answer(c[1]);
            case 10: return kernel.signal(c[1]);
            case 11: return kernel.await(c[1]);
            case 12: return kernel.pass();
            case 13: return kernel.priority(c[1], c[2]);
            case 14: return kernel.current();
            case 15: return kernel.thread(c[1], c[2]);
            case 16: return kernel.look(c[1], c[2], c[3]);
            default: return kernel.count(c[1]);
        }
    }
}
