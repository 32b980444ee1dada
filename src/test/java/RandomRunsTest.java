import java.util.NoSuchElementException;
import java.util.Random;

/**
 * Long runs of calls with right and wrong arguments: nothing but the document's exceptions comes, what is refused
 * changes nothing, and what can be seen from outside agrees with itself. The seeds are fixed.
 */
public final class RandomRunsTest {
    private static final int RUNS = 3000;
    private static final int CALLS = 120;

    public static void main(String[] args) {
        Check check = new Check("random runs");
        check.about("and the exception that comes if it is not so (nothing changes then)");
        for (int seed = 0; seed < RUNS; seed++) {
            run(check, new Random(seed), "seed " + seed);
        }
        check.end();
    }

    private static void run(Check check, Random random, String name) {
        CapKernel all = new CapKernel();
        CapKernel onlyTaken = new CapKernel();
        for (int i = 0; i < CALLS; i++) {
            int[] call = randomCall(random);
            if (random.nextInt(10) == 0 && all.current() == 0) {
                break;
            }
            Integer got = answerOf(check, all, call, name);
            if (got != null && !got.equals(answerOf(check, onlyTaken, call, name))) {
                check.tell(name + ": a refused call before changed the answer of " + call[0]);
                return;
            }
        }
        String state = Check.stateOf(all);
        if (!state.equals(Check.stateOf(onlyTaken))) {
            check.tell(name + ": a refused call changed something");
        }
        agrees(check, all, name);
    }

    private static int[] randomCall(Random random) {
        return new int[] {random.nextInt(14), address(random), address(random), random.nextInt(9), word(random)};
    }

    /** Mostly ROOT SLOTS, else those of TABLES, and some that are wrong. */
    private static int address(Random random) {
        int draw = random.nextInt(20);
        return draw < 13 ? random.nextInt(8) : draw < 19 ? 8 + random.nextInt(64) : random.nextBoolean() ? -1 : 72;
    }

    private static int word(Random random) {
        return random.nextInt(10) == 0 ? random.nextInt() : 100 * (1 + random.nextInt(14)) + random.nextInt(34);
    }

    private static Integer answerOf(Check check, CapKernel k, int[] call, String name) {
        try {
            return made(k, call);
        } catch (IllegalArgumentException | NoSuchElementException | UnsupportedOperationException
                | IllegalStateException refused) {
            return null;
        } catch (RuntimeException other) {
            check.tell(name + ": call " + call[0] + " threw " + other);
            return null;
        }
    }

    private static int made(CapKernel k, int[] call) {
        int a = call[1];
        int b = call[2];
        int c = call[3];
        switch (call[0]) {
            case 0: return k.copy(a, b, c);
            case 1: return k.mint(a, b, c, 1 + call[4] % 300);
            case 2: return k.move(a, b);
            case 3: return c < 4 ? k.delete(a) : k.pass();
            case 4: return c < 4 ? k.revoke(a) : k.priority(1 + a % 3, c % 4);
            case 5:
            case 6: return k.retype(c < 6 ? 1 : a, c % 2 == 0 ? 3 : c / 2, b);
            case 7: return k.send(c < 6 ? 2 : a, call[4], c % 2 == 0 ? b : -1);
            case 8: return k.call(c < 3 ? 0 : a, call[4]);
            case 9: return k.receive(c < 6 ? 2 : a, b);
            case 10: return k.answer(call[4]);
            case 11: return k.signal(a);
            case 12: return c == 0 ? k.await(a) : k.pass();
            default: return k.copy(c < 4 ? 4 + c : a, b, 7);
        }
    }

    private static void agrees(Check check, CapKernel k, String name) {
        int seen = 0;
        int ready = 0;
        for (int thread = 1; thread <= 3; thread++) {
            ready += k.thread(thread, 0) == 0 ? 1 : 0;
            for (int slot = 0; slot < 8; slot++) {
                if (!Check.isEmpty(k, thread, slot)) {
                    seen++;
                    if (k.look(thread, slot, 3) >= k.count(0)) {
                        check.tell(name + ": more came of one than there are");
                    }
                }
            }
        }
        if (seen > k.count(0) || k.count(2) > k.count(1) || k.count(1) > 40) {
            check.tell(name + ": the counts do not agree");
        }
        if (ready > 0 ? k.thread(k.current(), 0) != 0 : k.current() != 0) {
            check.tell(name + ": the CURRENT thread is not READY");
        }
    }
}
