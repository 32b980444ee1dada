import java.util.ArrayList;
import java.util.Arrays;
import java.util.List;
import java.util.NoSuchElementException;

/**
 * The document once more, written for plainness alone and apart from CapKernel: lines are lists, what is gone is
 * found by searching all TABLES, and who came of whom is looked up each time. ModelRunsTest compares the two.
 */
final class Model {
    private static final class Item {
        final int kind;
        final int size;
        final String server;
        final Cap[] slots;
        final List<Integer> senders = new ArrayList<>();
        final List<Integer> receivers = new ArrayList<>();
        int used;
        int bits;
        Item madeOf;

        Item(int kind, int size, String server) {
            this.kind = kind;
            this.size = size;
            this.server = server;
            this.slots = new Cap[kind == 3 ? 8 : 0];
        }
    }

    private static final class Cap {
        final Item item;
        final int rights;
        final int badge;
        Cap derivedFrom;

        Cap(Item item, int rights, int badge, Cap derivedFrom) {
            this.item = item;
            this.rights = rights;
            this.badge = badge;
            this.derivedFrom = derivedFrom;
        }
    }

    private static final class Slot {
        final Item table;
        final int index;

        Slot(Item table, int index) {
            this.table = table;
            this.index = index;
        }

        Cap cap() {
            return table.slots[index];
        }
    }

    private static final class Call {
        final int caller;

        Call(int caller) {
            this.caller = caller;
        }
    }

    private static final class Message {
        final int word;
        final int badge;
        final Cap with;
        final Call call;

        Message(int word, int badge, Cap with, Call call) {
            this.word = word;
            this.badge = badge;
            this.with = with;
            this.call = call;
        }
    }

    // Index 0 of these rows is not used: threads are 1, 2, 3.
    private final Item[] roots = new Item[4];
    private final int[] state = new int[4];
    private final int[] outcome = new int[4];
    private final int[] word = new int[4];
    private final int[] badge = new int[4];
    private final int[] address = new int[4];
    private final int[] priority = new int[4];
    private final Message[] message = new Message[4];
    private final Slot[] wanted = new Slot[4];
    private final int[] wantedAddress = new int[4];
    private final Call[] asks = new Call[4];
    private final Call[] mayAnswer = new Call[4];
    private final List<Integer> line = new ArrayList<>(List.of(1, 2, 3));
    private final List<Item> tables = new ArrayList<>();
    private final List<Item> madeByRetype = new ArrayList<>();
    private final List<Cap> byAge = new ArrayList<>();
    private final Item files = new Item(1, 0, "FILES");
    private final int[][] blocks = new int[6][];
    private final String[] blockOwner = new String[6];
    private int made;
    private int blocksRead;
    private int blocksWritten;

    Model() {
        Item names = new Item(1, 0, "NAMES");
        Item endpoint = new Item(1, 0, null);
        Item notification = new Item(2, 0, null);
        for (int thread = 1; thread <= 3; thread++) {
            roots[thread] = new Item(3, 0, null);
            tables.add(roots[thread]);
            priority[thread] = 1;
            fill(new Slot(roots[thread], 0), new Cap(names, 2, thread, null));
            fill(new Slot(roots[thread], 1), new Cap(new Item(0, 16, null), 7, 0, null));
            fill(new Slot(roots[thread], 2), new Cap(endpoint, 7, 0, null));
            fill(new Slot(roots[thread], 3), new Cap(notification, 7, 0, null));
        }
    }

    /** How many threads are READY: the runs keep away from states in which nothing goes on. */
    int ready() {
        int many = 0;
        for (int thread = 1; thread <= 3; thread++) {
            many += state[thread] == 0 ? 1 : 0;
        }
        return many;
    }

    boolean isFullSlot(int thread, int at) {
        Slot slot = addressed(at) ? find(thread, at) : null;
        return slot != null && slot.cap() != null;
    }

    boolean isEmptySlot(int thread, int at) {
        Slot slot = addressed(at) ? find(thread, at) : null;
        return slot != null && slot.cap() == null;
    }

    /** Whether a thread that sends to, or takes from, the object there would go on at once. */
    boolean goesOn(int thread, int at, boolean takes) {
        if (!isFullSlot(thread, at)) {
            return true;
        }
        Item item = find(thread, at).cap().item;
        if (item.kind == 2) {
            return !takes || item.bits != 0;
        }
        return item.server != null || !(takes ? item.senders : item.receivers).isEmpty();
    }

    int copy(int from, int to, int rights) {
        int me = actor();
        argument(addressed(from) && addressed(to) && rights >= 0 && rights <= 7);
        Cap source = full(me, from).cap();
        Slot target = slot(me, to);
        state(target.cap() == null);
        fill(target, new Cap(source.item, source.rights & rights, source.badge, source));
        return source.rights & rights;
    }

    int mint(int from, int to, int rights, int mark) {
        int me = actor();
        argument(addressed(from) && addressed(to) && rights >= 0 && rights <= 7 && mark >= 1 && mark <= 255);
        Cap source = full(me, from).cap();
        Slot target = slot(me, to);
        argument(source.item.kind == 1 || source.item.kind == 2);
        state(source.badge == 0 && target.cap() == null);
        fill(target, new Cap(source.item, source.rights & rights, mark, source));
        return source.rights & rights;
    }

    int move(int from, int to) {
        int me = actor();
        argument(addressed(from) && addressed(to));
        Slot source = full(me, from);
        Slot target = slot(me, to);
        state(target.cap() == null && source.cap().item != target.table);
        target.table.slots[target.index] = source.cap();
        source.table.slots[source.index] = null;
        return 0;
    }

    int delete(int at) {
        int me = actor();
        argument(addressed(at));
        Slot slot = full(me, at);
        int before = byAge.size();
        empty(slot);
        return before - byAge.size();
    }

    int revoke(int at) {
        int me = actor();
        argument(addressed(at));
        Cap origin = full(me, at).cap();
        int before = byAge.size();
        while (byAge.contains(origin)) {
            Cap youngest = null;
            for (Cap cap : byAge) {
                youngest = cameOf(cap, origin) ? cap : youngest;
            }
            if (youngest == null) {
                break;
            }
            empty(whereIs(youngest));
        }
        boolean objectsLeft = false;
        for (Item item : madeByRetype) {
            objectsLeft |= item.madeOf == origin.item;
        }
        if (origin.item.kind == 0 && !objectsLeft) {
            origin.item.used = 0;
        }
        return before - byAge.size();
    }

    int retype(int from, int kind, int to) {
        int me = actor();
        argument(addressed(from) && kind >= 0 && kind <= 3 && addressed(to));
        Cap source = full(me, from).cap();
        Slot target = slot(me, to);
        argument(source.item.kind == 0);
        rights(source, 2);
        int takes = kind == 0 || kind == 3 ? 4 : 1;
        state(target.cap() == null && source.item.used + takes <= source.item.size && made < 40);
        source.item.used += takes;
        made++;
        Item item = new Item(kind, kind == 0 ? 4 : 0, null);
        item.madeOf = source.item;
        madeByRetype.add(item);
        if (kind == 3) {
            tables.add(item);
        }
        fill(target, new Cap(item, 7, 0, source));
        return made;
    }

    int send(int at, int what, int with) {
        int me = actor();
        argument(addressed(at) && (with == -1 || addressed(with)));
        Cap by = full(me, at).cap();
        Cap goes = with == -1 ? null : full(me, with).cap();
        argument(by.item.kind == 1);
        rights(by, goes == null ? 2 : 6);
        state(by.item.server == null);
        return post(me, by.item, new Message(what, by.badge, goes, null));
    }

    int call(int at, int what) {
        int me = actor();
        argument(addressed(at));
        Cap by = full(me, at).cap();
        argument(by.item.kind == 1);
        rights(by, 2);
        if (by.item.server != null) {
            hears(me, by.item == files ? askFiles(by.badge, what) : askNames(me, by.badge, what), 0, -1);
            return 2;
        }
        return post(me, by.item, new Message(what, by.badge, null, new Call(me)));
    }

    int receive(int at, int into) {
        int me = actor();
        argument(addressed(at) && (into == -1 || addressed(into)));
        Cap by = full(me, at).cap();
        Slot where = into == -1 ? null : slot(me, into);
        argument(by.item.kind == 1);
        rights(by, 1);
        state(by.item.server == null);
        wanted[me] = where;
        wantedAddress[me] = into;
        if (by.item.senders.isEmpty()) {
            state[me] = 4;
            by.item.receivers.add(me);
            return 1;
        }
        int sender = by.item.senders.remove(0);
        bring(message[sender], me);
        if (message[sender].call != null) {
            state[sender] = 3;
        } else {
            outcome[sender] = 0;
            becomesReady(sender);
        }
        return 0;
    }

    int answer(int what) {
        int me = actor();
        Call last = mayAnswer[me];
        state(last != null && state[last.caller] == 3 && asks[last.caller] == last);
        hears(last.caller, what, 0, -1);
        becomesReady(last.caller);
        return last.caller;
    }

    int signal(int at) {
        int me = actor();
        argument(addressed(at));
        Cap by = full(me, at).cap();
        argument(by.item.kind == 2);
        rights(by, 2);
        by.item.bits |= by.badge == 0 ? 1 : by.badge;
        if (!by.item.receivers.isEmpty()) {
            int first = by.item.receivers.remove(0);
            hears(first, by.item.bits, 0, -1);
            by.item.bits = 0;
            becomesReady(first);
        }
        return by.item.receivers.size();
    }

    int await(int at) {
        int me = actor();
        argument(addressed(at));
        Cap by = full(me, at).cap();
        argument(by.item.kind == 2);
        rights(by, 1);
        if (by.item.bits == 0) {
            state[me] = 5;
            by.item.receivers.add(me);
            return 1;
        }
        hears(me, by.item.bits, 0, -1);
        by.item.bits = 0;
        return 0;
    }

    int pass() {
        toTheEnd(actor());
        return current();
    }

    int priority(int thread, int p) {
        argument(thread >= 1 && thread <= 3 && p >= 0 && p <= 3);
        int old = priority[thread];
        priority[thread] = p;
        return old;
    }

    int current() {
        int best = 0;
        for (int thread : line) {
            if (state[thread] == 0 && (best == 0 || priority[thread] > priority[best])) {
                best = thread;
            }
        }
        return best;
    }

    int thread(int thread, int what) {
        argument(thread >= 1 && thread <= 3 && what >= 0 && what <= 5);
        int[][] rows = {state, outcome, word, badge, address, priority};
        return rows[what][thread];
    }

    int look(int thread, int at, int what) {
        argument(thread >= 1 && thread <= 3 && addressed(at) && what >= 0 && what <= 4);
        Cap cap = full(thread, at).cap();
        int came = 0;
        for (Cap other : byAge) {
            came += cameOf(other, cap) ? 1 : 0;
        }
        int content = cap.item.kind == 0 ? cap.item.used : cap.item.kind == 2 ? cap.item.bits : 0;
        return new int[] {cap.item.kind, cap.rights, cap.badge, came, content}[what];
    }

    int count(int what) {
        int free = 0;
        for (int[] block : blocks) {
            free += block == null ? 1 : 0;
        }
        int[] counts = {byAge.size(), made, madeByRetype.size(), blocksRead, blocksWritten, free};
        return what >= 0 && what < counts.length ? counts[what] : -1;
    }

    // Conditions

    private int actor() {
        state(current() != 0);
        return current();
    }

    private static boolean addressed(int at) {
        return at >= 0 && at <= 71;
    }

    private static void argument(boolean holds) {
        if (!holds) {
            throw new IllegalArgumentException();
        }
    }

    private static void state(boolean holds) {
        if (!holds) {
            throw new IllegalStateException();
        }
    }

    private static void rights(Cap cap, int all) {
        if ((cap.rights & all) != all) {
            throw new UnsupportedOperationException();
        }
    }

    private Slot find(int thread, int at) {
        if (at < 8) {
            return new Slot(roots[thread], at);
        }
        Cap way = roots[thread].slots[(at - 8) / 8];
        return way == null || way.item.kind != 3 ? null : new Slot(way.item, (at - 8) % 8);
    }

    private Slot slot(int thread, int at) {
        Slot slot = find(thread, at);
        if (slot == null) {
            throw new NoSuchElementException();
        }
        return slot;
    }

    private Slot full(int thread, int at) {
        Slot slot = slot(thread, at);
        if (slot.cap() == null) {
            throw new NoSuchElementException();
        }
        return slot;
    }

    // Capabilities and objects

    private void fill(Slot slot, Cap cap) {
        slot.table.slots[slot.index] = cap;
        byAge.add(cap);
    }

    private Slot whereIs(Cap cap) {
        for (Item table : tables) {
            for (int index = 0; index < 8; index++) {
                if (table.slots[index] == cap) {
                    return new Slot(table, index);
                }
            }
        }
        return null;
    }

    private static boolean cameOf(Cap cap, Cap origin) {
        return cap.derivedFrom != null && (cap.derivedFrom == origin || cameOf(cap.derivedFrom, origin));
    }

    private void empty(Slot slot) {
        Cap gone = slot.cap();
        slot.table.slots[slot.index] = null;
        byAge.remove(gone);
        boolean isLast = true;
        for (Cap other : byAge) {
            if (other.derivedFrom == gone) {
                other.derivedFrom = gone.derivedFrom;
            }
            isLast &= other.item != gone.item;
        }
        if (isLast && gone.item.server == null) {
            end(gone.item);
        }
    }

    private void end(Item item) {
        madeByRetype.remove(item);
        tables.remove(item);
        List<Integer> waiting = new ArrayList<>(item.senders);
        waiting.addAll(item.receivers);
        item.senders.clear();
        item.receivers.clear();
        for (int thread : waiting) {
            outcome[thread] = 1;
            becomesReady(thread);
        }
        for (int index = 0; index < item.slots.length; index++) {
            if (item.slots[index] != null) {
                empty(new Slot(item, index));
            }
        }
    }

    // Threads and messages

    private void toTheEnd(int thread) {
        line.remove(Integer.valueOf(thread));
        line.add(thread);
    }

    private void becomesReady(int thread) {
        state[thread] = 0;
        toTheEnd(thread);
    }

    private void hears(int thread, int newWord, int newBadge, int newAddress) {
        outcome[thread] = 0;
        word[thread] = newWord;
        badge[thread] = newBadge;
        address[thread] = newAddress;
    }

    private int post(int me, Item endpoint, Message sent) {
        message[me] = sent;
        asks[me] = sent.call;
        if (endpoint.receivers.isEmpty()) {
            state[me] = sent.call == null ? 1 : 2;
            endpoint.senders.add(me);
            return 1;
        }
        int receiver = endpoint.receivers.remove(0);
        bring(sent, receiver);
        becomesReady(receiver);
        if (sent.call != null) {
            state[me] = 3;
        }
        return 0;
    }

    private void bring(Message sent, int receiver) {
        Slot into = wanted[receiver];
        boolean comes = sent.with != null && byAge.contains(sent.with)
                && into != null && tables.contains(into.table) && into.cap() == null;
        if (comes) {
            fill(into, new Cap(sent.with.item, sent.with.rights, sent.with.badge, sent.with));
        }
        hears(receiver, sent.word, sent.badge, comes ? wantedAddress[receiver] : -1);
        if (sent.call != null) {
            mayAnswer[receiver] = sent.call;
        }
    }

    // Servers

    private int askNames(int me, int mark, int what) {
        if (what < 100 || what > 199) {
            return -2;
        }
        if (!isEmptySlot(me, what - 100)) {
            return -1;
        }
        fill(find(me, what - 100), new Cap(files, 2, mark, null));
        return 0;
    }

    private int askFiles(int mark, int what) {
        int number = Math.floorMod(what, 100);
        int operation = Math.floorDiv(what, 100);
        String name = mark + "/" + (operation == 13 ? number : number / 8);
        int block = Arrays.asList(blockOwner).indexOf(name);
        if (operation == 13 && number <= 3) {
            return removeFile(block);
        }
        if (number > 31 || operation < 2 || operation > 12) {
            return -2;
        }
        if (operation == 2) {
            blocksRead += block < 0 ? 0 : 1;
            return block < 0 ? 0 : blocks[block][number % 8];
        }
        return writeFile(block, name, number % 8, operation - 3);
    }

    private int removeFile(int block) {
        if (block < 0) {
            return -1;
        }
        blocks[block] = null;
        blockOwner[block] = null;
        return 0;
    }

    private int writeFile(int found, String name, int cell, int value) {
        int block = found;
        for (int free = 0; free < 6 && block < 0; free++) {
            if (blocks[free] == null) {
                block = free;
                blocks[block] = new int[8];
                blockOwner[block] = name;
                blocksWritten++;
            }
        }
        if (block < 0) {
            return -3;
        }
        blocksRead++;
        blocksWritten++;
        blocks[block][cell] = value;
        return 0;
    }
}
