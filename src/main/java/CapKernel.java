import java.util.ArrayList;
import java.util.NoSuchElementException;

public final class CapKernel {
    public static final int OK = 0;
    public static final int ABORTED = 1;

    private static final int UNTYPED = 0;
    private static final int ENDPOINT = 1;
    private static final int NOTIFICATION = 2;
    private static final int TABLE = 3;

    private static final int READ = 1;
    private static final int WRITE = 2;
    private static final int GRANT = 4;
    private static final int ALL_RIGHTS = READ | WRITE | GRANT;
    private static final int GREATEST_BADGE = 255;

    private static final int READY = 0;
    private static final int SENDING = 1;
    private static final int CALLING = 2;
    private static final int ASKING = 3;
    private static final int RECEIVING = 4;
    private static final int WAITING = 5;

    private static final int CLIENTS = 3;
    private static final int FIRST_PRIORITY = 1;
    private static final int GREATEST_PRIORITY = 3;

    private static final int SLOTS = 8;
    private static final int ADDRESSES = 72;
    private static final int NONE = -1;

    private static final int CLIENT_SIZE = 16;
    private static final int LARGE = 4;
    private static final int SMALL = 1;
    private static final int MOST_OBJECTS = 40;
    // Only TABLES made by retype lie in one another, so no deletion can go deeper than there are objects.
    private static final int DEEPEST = MOST_OBJECTS + 1;

    private static final int NO_SERVER = 0;
    private static final int NAMES = 1;
    private static final int FILES = 2;

    private static final int DONE_AT_ONCE = 0;
    private static final int MUST_WAIT = 1;
    private static final int SERVED = 2;

    private final Client[] clients;
    // The oldest first: the order of their making is what revoke goes by.
    private final ArrayList<Capability> capabilities;
    private final Thing filesEndpoint;
    private final FileServer fileServer;
    private int made;
    private int stillThere;
    private int stamps;

    public CapKernel() {
        clients = new Client[CLIENTS];
        capabilities = new ArrayList<Capability>();
        filesEndpoint = new Thing(ENDPOINT, 0, FILES);
        fileServer = new FileServer();
        Thing names = new Thing(ENDPOINT, 0, NAMES);
        Thing endpoint = new Thing(ENDPOINT, 0, NO_SERVER);
        Thing notification = new Thing(NOTIFICATION, 0, NO_SERVER);
        for (int i = 0; i < CLIENTS; i++) {
            Client client = new Client(i + 1);
            clients[i] = client;
            client.place = nextStamp();
            Thing untyped = new Thing(UNTYPED, CLIENT_SIZE, NO_SERVER);
            put(new Capability(names, WRITE, client.number, null), client.root, 0);
            put(new Capability(untyped, ALL_RIGHTS, 0, null), client.root, 1);
            put(new Capability(endpoint, ALL_RIGHTS, 0, null), client.root, 2);
            put(new Capability(notification, ALL_RIGHTS, 0, null), client.root, 3);
        }
    }

    public int copy(int from, int to, int rights) throws IllegalArgumentException, NoSuchElementException,
            UnsupportedOperationException, IllegalStateException {
        Client me = actor();
        needNumbers(isAddress(from) && isAddress(to) && isWithin(rights, 0, ALL_RIGHTS));
        Capability source = capabilityAt(me, from);
        Thing table = tableAt(me, to);
        needState(table.isFree(slotOf(to)));
        return derive(source, rights, source.badge, table, slotOf(to));
    }

    public int mint(int from, int to, int rights, int badge) throws IllegalArgumentException,
            NoSuchElementException, UnsupportedOperationException, IllegalStateException {
        Client me = actor();
        needNumbers(isAddress(from) && isAddress(to) && isWithin(rights, 0, ALL_RIGHTS)
                && isWithin(badge, 1, GREATEST_BADGE));
        Capability source = capabilityAt(me, from);
        Thing table = tableAt(me, to);
        int kind = source.thing.kind;
        needKind(kind == ENDPOINT || kind == NOTIFICATION);
        needState(source.badge == 0);
        needState(table.isFree(slotOf(to)));
        return derive(source, rights, badge, table, slotOf(to));
    }

    public int move(int from, int to) throws IllegalArgumentException, NoSuchElementException,
            UnsupportedOperationException, IllegalStateException {
        Client me = actor();
        needNumbers(isAddress(from) && isAddress(to));
        Capability moved = capabilityAt(me, from);
        Thing table = tableAt(me, to);
        needState(table.isFree(slotOf(to)));
        needState(moved.thing != table);
        moved.leaveSlot();
        moved.enterSlot(table, slotOf(to));
        return 0;
    }

    public int delete(int at) throws IllegalArgumentException, NoSuchElementException,
            UnsupportedOperationException, IllegalStateException {
        Client me = actor();
        needNumbers(isAddress(at));
        return discard(capabilityAt(me, at), 0);
    }

    public int revoke(int at) throws IllegalArgumentException, NoSuchElementException,
            UnsupportedOperationException, IllegalStateException {
        Client me = actor();
        needNumbers(isAddress(at));
        Capability origin = capabilityAt(me, at);
        int gone = discardAllThatCameOf(origin);
        // The UNTYPED may outlive the capability that was named, by another one for it.
        Thing thing = origin.thing;
        if (thing.kind == UNTYPED && thing.madeOfIt == 0) {
            thing.used = 0;
        }
        return gone;
    }

    public int retype(int from, int kind, int to) throws IllegalArgumentException, NoSuchElementException,
            UnsupportedOperationException, IllegalStateException {
        Client me = actor();
        needNumbers(isAddress(from) && isWithin(kind, UNTYPED, TABLE) && isAddress(to));
        Capability source = capabilityAt(me, from);
        Thing table = tableAt(me, to);
        Thing untyped = source.thing;
        needKind(untyped.kind == UNTYPED);
        needRights(source, WRITE);
        int takes = kind == UNTYPED || kind == TABLE ? LARGE : SMALL;
        needState(table.isFree(slotOf(to)));
        needState(untyped.size - untyped.used >= takes);
        needState(made < MOST_OBJECTS);
        untyped.used += takes;
        Thing thing = makeOf(untyped, kind);
        put(new Capability(thing, ALL_RIGHTS, 0, source), table, slotOf(to));
        return thing.number;
    }

    public int send(int at, int word, int with) throws IllegalArgumentException, NoSuchElementException,
            UnsupportedOperationException, IllegalStateException {
        Client me = actor();
        needNumbers(isAddress(at) && (with == NONE || isAddress(with)));
        Capability by = capabilityAt(me, at);
        Capability sent = with == NONE ? null : capabilityAt(me, with);
        needKind(by.thing.kind == ENDPOINT);
        needRights(by, sent == null ? WRITE : WRITE | GRANT);
        needState(by.thing.server == NO_SERVER);
        me.prepare(word, by.badge, sent);
        Client receiver = firstReceiving(by.thing);
        if (receiver == null) {
            beginWaiting(me, by.thing, SENDING);
            return MUST_WAIT;
        }
        deliver(me, receiver);
        makeReady(receiver);
        return DONE_AT_ONCE;
    }

    public int call(int at, int word) throws IllegalArgumentException, NoSuchElementException,
            UnsupportedOperationException, IllegalStateException {
        Client me = actor();
        needNumbers(isAddress(at));
        Capability by = capabilityAt(me, at);
        needKind(by.thing.kind == ENDPOINT);
        needRights(by, WRITE);
        if (by.thing.server != NO_SERVER) {
            me.hear(serverAnswers(me, by, word), 0, NONE);
            return SERVED;
        }
        me.prepare(word, by.badge, null);
        me.calls++;
        Client receiver = firstReceiving(by.thing);
        if (receiver == null) {
            beginWaiting(me, by.thing, CALLING);
            return MUST_WAIT;
        }
        deliver(me, receiver);
        beginAsking(me, receiver);
        makeReady(receiver);
        return DONE_AT_ONCE;
    }

    public int receive(int at, int into) throws IllegalArgumentException, NoSuchElementException,
            UnsupportedOperationException, IllegalStateException {
        Client me = actor();
        needNumbers(isAddress(at) && (into == NONE || isAddress(into)));
        Capability by = capabilityAt(me, at);
        Thing table = into == NONE ? null : tableAt(me, into);
        needKind(by.thing.kind == ENDPOINT);
        needRights(by, READ);
        needState(by.thing.server == NO_SERVER);
        me.intoTable = table;
        me.into = into;
        Client sender = firstSending(by.thing);
        if (sender == null) {
            beginWaiting(me, by.thing, RECEIVING);
            return MUST_WAIT;
        }
        deliver(sender, me);
        if (sender.state == CALLING) {
            beginAsking(sender, me);
        } else {
            sender.outcome = OK;
            makeReady(sender);
        }
        return DONE_AT_ONCE;
    }

    public int answer(int word) throws IllegalArgumentException, NoSuchElementException,
            UnsupportedOperationException, IllegalStateException {
        Client me = actor();
        Client asker = me.asker;
        if (asker == null || asker.state != ASKING || asker.calls != me.askersCall) {
            throw new IllegalStateException();
        }
        asker.hear(word, 0, NONE);
        makeReady(asker);
        return asker.number;
    }

    public int signal(int at) throws IllegalArgumentException, NoSuchElementException,
            UnsupportedOperationException, IllegalStateException {
        Client me = actor();
        needNumbers(isAddress(at));
        Capability by = capabilityAt(me, at);
        Thing notification = by.thing;
        needKind(notification.kind == NOTIFICATION);
        needRights(by, WRITE);
        notification.bits |= by.badge == 0 ? 1 : by.badge;
        Client first = firstAt(notification);
        if (first != null) {
            takeBits(first, notification);
            makeReady(first);
        }
        return howManyAt(notification);
    }

    public int await(int at) throws IllegalArgumentException, NoSuchElementException,
            UnsupportedOperationException, IllegalStateException {
        Client me = actor();
        needNumbers(isAddress(at));
        Capability by = capabilityAt(me, at);
        Thing notification = by.thing;
        needKind(notification.kind == NOTIFICATION);
        needRights(by, READ);
        if (notification.bits == 0) {
            beginWaiting(me, notification, WAITING);
            return MUST_WAIT;
        }
        takeBits(me, notification);
        return DONE_AT_ONCE;
    }

    public int pass() throws IllegalArgumentException, NoSuchElementException,
            UnsupportedOperationException, IllegalStateException {
        Client me = actor();
        me.place = nextStamp();
        return current();
    }

    public int priority(int thread, int p) throws IllegalArgumentException, NoSuchElementException,
            UnsupportedOperationException, IllegalStateException {
        needNumbers(isClient(thread) && isWithin(p, 0, GREATEST_PRIORITY));
        Client client = clients[thread - 1];
        int old = client.priority;
        client.priority = p;
        return old;
    }

    public int current() {
        Client first = firstInLine();
        return first == null ? 0 : first.number;
    }

    public int thread(int thread, int what) throws IllegalArgumentException, NoSuchElementException,
            UnsupportedOperationException, IllegalStateException {
        needNumbers(isClient(thread) && isWithin(what, 0, 5));
        Client client = clients[thread - 1];
        switch (what) {
            case 0: return client.state;
            case 1: return client.outcome;
            case 2: return client.word;
            case 3: return client.badge;
            case 4: return client.address;
            default: return client.priority;
        }
    }

    public int look(int thread, int address, int what) throws IllegalArgumentException, NoSuchElementException,
            UnsupportedOperationException, IllegalStateException {
        needNumbers(isClient(thread) && isAddress(address) && isWithin(what, 0, 4));
        Capability seen = capabilityAt(clients[thread - 1], address);
        switch (what) {
            case 0: return seen.thing.kind;
            case 1: return seen.rights;
            case 2: return seen.badge;
            case 3: return howManyCameOf(seen);
            default: return seen.thing.content();
        }
    }

    public int count(int what) {
        switch (what) {
            case 0: return capabilities.size();
            case 1: return made;
            case 2: return stillThere;
            case 3: return fileServer.driver.blocksRead;
            case 4: return fileServer.driver.blocksWritten;
            case 5: return fileServer.howManyFree();
            default: return -1;
        }
    }

    // What an action looks at

    private Client actor() {
        Client first = firstInLine();
        if (first == null) {
            throw new IllegalStateException();
        }
        return first;
    }

    private static void needNumbers(boolean inRange) {
        if (!inRange) {
            throw new IllegalArgumentException();
        }
    }

    private static void needKind(boolean wanted) {
        if (!wanted) {
            throw new IllegalArgumentException();
        }
    }

    private static void needRights(Capability by, int wanted) {
        if ((by.rights & wanted) != wanted) {
            throw new UnsupportedOperationException();
        }
    }

    private static void needState(boolean holds) {
        if (!holds) {
            throw new IllegalStateException();
        }
    }

    private static boolean isWithin(int number, int least, int greatest) {
        return number >= least && number <= greatest;
    }

    private static boolean isAddress(int number) {
        return isWithin(number, 0, ADDRESSES - 1);
    }

    private static boolean isClient(int number) {
        return isWithin(number, 1, CLIENTS);
    }

    // Addresses

    private static int slotOf(int address) {
        return address % SLOTS;
    }

    /** The TABLE in which the ADDRESS lies, null if it leads to no SLOT. */
    private static Thing reach(Client client, int address) {
        if (!isAddress(address)) {
            return null;
        }
        if (address < SLOTS) {
            return client.root;
        }
        Capability way = client.root.held(address / SLOTS - 1);
        return way != null && way.thing.kind == TABLE ? way.thing : null;
    }

    private static Thing tableAt(Client client, int address) {
        Thing table = reach(client, address);
        if (table == null) {
            throw new NoSuchElementException();
        }
        return table;
    }

    private static Capability capabilityAt(Client client, int address) {
        Capability held = tableAt(client, address).held(slotOf(address));
        if (held == null) {
            throw new NoSuchElementException();
        }
        return held;
    }

    // Capabilities and objects, how they come and go

    private void put(Capability capability, Thing table, int slot) {
        capability.enterSlot(table, slot);
        capability.thing.holders++;
        capabilities.add(capability);
    }

    private int derive(Capability source, int rights, int badge, Thing table, int slot) {
        Capability derived = new Capability(source.thing, source.rights & rights, badge, source);
        put(derived, table, slot);
        return derived.rights;
    }

    private Thing makeOf(Thing untyped, int kind) {
        Thing thing = new Thing(kind, kind == UNTYPED ? LARGE : 0, NO_SERVER);
        made++;
        stillThere++;
        thing.number = made;
        thing.madeOf = untyped;
        untyped.madeOfIt++;
        return thing;
    }

    private int discardAllThatCameOf(Capability origin) {
        int gone = 0;
        // Each round takes at least one away, so there are no more rounds than capabilities at first.
        for (int rounds = capabilities.size(); rounds > 0 && !origin.gone; rounds--) {
            Capability youngest = youngestThatCameOf(origin);
            if (youngest == null) {
                break;
            }
            gone += discard(youngest, 0);
        }
        return gone;
    }

    private Capability youngestThatCameOf(Capability origin) {
        for (int i = capabilities.size() - 1; i >= 0; i--) {
            if (capabilities.get(i).cameOf(origin)) {
                return capabilities.get(i);
            }
        }
        return null;
    }

    private int howManyCameOf(Capability origin) {
        int many = 0;
        for (int i = 0; i < capabilities.size(); i++) {
            if (capabilities.get(i).cameOf(origin)) {
                many++;
            }
        }
        return many;
    }

    /** Answers how many capabilities are gone by it. */
    private int discard(Capability capability, int depth) {
        if (depth > DEEPEST) {
            return 0;
        }
        capability.gone = true;
        capability.leaveSlot();
        unlist(capability);
        Thing thing = capability.thing;
        thing.holders--;
        return thing.holders == 0 ? 1 + endThing(thing, depth) : 1;
    }

    private void unlist(Capability capability) {
        // From the end, so that taking one out does not shift what is still to be seen.
        for (int i = capabilities.size() - 1; i >= 0; i--) {
            Capability other = capabilities.get(i);
            if (other == capability) {
                capabilities.remove(i);
            } else if (other.from == capability) {
                other.from = capability.from;
            }
        }
    }

    /** Answers how many capabilities are gone by it. */
    private int endThing(Thing thing, int depth) {
        if (thing.server != NO_SERVER) {
            return 0;
        }
        thing.gone = true;
        if (thing.madeOf != null) {
            thing.madeOf.madeOfIt--;
            stillThere--;
        }
        abortAllAt(thing);
        int gone = 0;
        for (int slot = 0; slot < thing.slots.length; slot++) {
            Capability held = thing.held(slot);
            if (held != null) {
                gone += discard(held, depth + 1);
            }
        }
        return gone;
    }

    // Threads, their line and their waiting

    private int nextStamp() {
        stamps++;
        return stamps;
    }

    private Client firstInLine() {
        Client first = null;
        for (int i = 0; i < clients.length; i++) {
            Client client = clients[i];
            if (client.state == READY && (first == null || client.comesBefore(first))) {
                first = client;
            }
        }
        return first;
    }

    private void makeReady(Client client) {
        client.state = READY;
        client.waitsAt = null;
        client.place = nextStamp();
    }

    private void beginWaiting(Client client, Thing at, int state) {
        client.state = state;
        client.waitsAt = at;
        client.since = nextStamp();
    }

    private Client firstAt(Thing thing) {
        Client first = null;
        for (int i = 0; i < clients.length; i++) {
            Client client = clients[i];
            if (client.waitsAt == thing && (first == null || client.since < first.since)) {
                first = client;
            }
        }
        return first;
    }

    private Client firstReceiving(Thing endpoint) {
        Client first = firstAt(endpoint);
        return first != null && first.state == RECEIVING ? first : null;
    }

    private Client firstSending(Thing endpoint) {
        Client first = firstAt(endpoint);
        return first != null && first.state != RECEIVING ? first : null;
    }

    private int howManyAt(Thing thing) {
        int many = 0;
        for (int i = 0; i < clients.length; i++) {
            if (clients[i].waitsAt == thing) {
                many++;
            }
        }
        return many;
    }

    private void abortAllAt(Thing thing) {
        for (int i = 0; i < CLIENTS; i++) {
            Client first = firstAt(thing);
            if (first != null) {
                first.outcome = ABORTED;
                makeReady(first);
            }
        }
    }

    // Messages

    private void deliver(Client sender, Client receiver) {
        int address = handOver(sender.sent, receiver);
        receiver.hear(sender.sentWord, sender.sentBadge, address);
    }

    /** Answers the ADDRESS to which the capability came. */
    private int handOver(Capability sent, Client receiver) {
        Thing table = receiver.intoTable;
        if (sent == null || sent.gone || table == null || table.gone) {
            return NONE;
        }
        int slot = slotOf(receiver.into);
        if (!table.isFree(slot)) {
            return NONE;
        }
        derive(sent, ALL_RIGHTS, sent.badge, table, slot);
        return receiver.into;
    }

    private static void beginAsking(Client caller, Client receiver) {
        caller.state = ASKING;
        caller.waitsAt = null;
        receiver.asker = caller;
        receiver.askersCall = caller.calls;
    }

    private static void takeBits(Client client, Thing notification) {
        client.hear(notification.bits, 0, NONE);
        notification.bits = 0;
    }

    // Servers

    private int serverAnswers(Client caller, Capability by, int word) {
        return by.thing.server == NAMES ? namesAnswers(caller, by.badge, word) : fileServer.serve(by.badge, word);
    }

    private int namesAnswers(Client caller, int badge, int word) {
        if (word < 0 || word / 100 != 1) {
            return -2;
        }
        int address = word % 100;
        Thing table = reach(caller, address);
        if (table == null || !table.isFree(slotOf(address))) {
            return -1;
        }
        put(new Capability(filesEndpoint, WRITE, badge, null), table, slotOf(address));
        return 0;
    }

    /** An object of the kernel, of one of the four kinds; a ROOT is a TABLE that no capability is for. */
    private static final class Thing {
        final int kind;
        final int size;
        final int server;
        final Capability[] slots;
        int number;
        int used;
        int bits;
        int holders;
        int madeOfIt;
        boolean gone;
        Thing madeOf;

        Thing(int kind, int size, int server) {
            this.kind = kind;
            this.size = size;
            this.server = server;
            this.slots = new Capability[kind == TABLE ? SLOTS : 0];
        }

        boolean hasSlot(int slot) {
            return slot >= 0 && slot < slots.length;
        }

        Capability held(int slot) {
            return hasSlot(slot) ? slots[slot] : null;
        }

        boolean isFree(int slot) {
            return hasSlot(slot) && slots[slot] == null;
        }

        void hold(int slot, Capability capability) {
            if (hasSlot(slot)) {
                slots[slot] = capability;
            }
        }

        int content() {
            return kind == UNTYPED ? used : bits;
        }
    }

    private static final class Capability {
        final Thing thing;
        final int rights;
        final int badge;
        Capability from;
        Thing table;
        int slot;
        boolean gone;

        Capability(Thing thing, int rights, int badge, Capability from) {
            this.thing = thing;
            this.rights = rights;
            this.badge = badge;
            this.from = from;
        }

        void enterSlot(Thing into, int at) {
            table = into;
            slot = at;
            into.hold(at, this);
        }

        void leaveSlot() {
            if (table != null) {
                table.hold(slot, null);
                table = null;
            }
        }

        boolean cameOf(Capability origin) {
            for (Capability before = from; before != null; before = before.from) {
                if (before == origin) {
                    return true;
                }
            }
            return false;
        }
    }

    private static final class Client {
        final int number;
        final Thing root;
        int state;
        int outcome;
        int word;
        int badge;
        int address;
        int priority;
        // The lesser place comes first in the LINE, the lesser since has waited longer.
        int place;
        int since;
        Thing waitsAt;
        int sentWord;
        int sentBadge;
        Capability sent;
        Thing intoTable;
        int into;
        // How many calls it made tells one call from a later one of the same thread.
        int calls;
        Client asker;
        int askersCall;

        Client(int number) {
            this.number = number;
            this.root = new Thing(TABLE, 0, NO_SERVER);
            this.priority = FIRST_PRIORITY;
        }

        boolean comesBefore(Client other) {
            return priority > other.priority || priority == other.priority && place < other.place;
        }

        void prepare(int newWord, int newBadge, Capability goesWithIt) {
            sentWord = newWord;
            sentBadge = newBadge;
            sent = goesWithIt;
        }

        void hear(int newWord, int newBadge, int newAddress) {
            outcome = OK;
            word = newWord;
            badge = newBadge;
            address = newAddress;
        }
    }

    /** FILES: keeps for each block of the DISK whose file it is, and reaches the cells by the DRIVER alone. */
    private static final class FileServer {
        private static final int FILES_EACH = 4;
        private static final int READING = 2;
        private static final int FIRST_WRITING = 3;
        private static final int LAST_WRITING = 12;
        private static final int REMOVING = 13;

        final Driver driver;
        final boolean[] taken;
        final int[] owners;
        final int[] files;
        final int[] buffer;

        FileServer() {
            driver = new Driver();
            taken = new boolean[Driver.BLOCKS];
            owners = new int[Driver.BLOCKS];
            files = new int[Driver.BLOCKS];
            buffer = new int[Driver.CELLS];
        }

        int serve(int badge, int word) {
            if (word < 0) {
                return -2;
            }
            int operation = word / 100;
            int number = word % 100;
            boolean isCell = number < FILES_EACH * Driver.CELLS;
            if (operation == READING && isCell) {
                return readCell(badge, number / Driver.CELLS, number % Driver.CELLS);
            }
            if (operation >= FIRST_WRITING && operation <= LAST_WRITING && isCell) {
                int value = operation - FIRST_WRITING;
                return writeCell(badge, number / Driver.CELLS, number % Driver.CELLS, value);
            }
            if (operation == REMOVING && number < FILES_EACH) {
                return removeFile(badge, number);
            }
            return -2;
        }

        int readCell(int badge, int file, int cell) {
            int block = blockOf(badge, file);
            if (block < 0 || cell < 0 || cell >= buffer.length) {
                return 0;
            }
            driver.readBlock(block, buffer);
            return buffer[cell];
        }

        int writeCell(int badge, int file, int cell, int value) {
            int block = blockOf(badge, file);
            if (block < 0) {
                block = newFile(badge, file);
            }
            if (block < 0 || cell < 0 || cell >= buffer.length) {
                return -3;
            }
            driver.readBlock(block, buffer);
            buffer[cell] = value;
            driver.writeBlock(block, buffer);
            return 0;
        }

        int removeFile(int badge, int file) {
            int block = blockOf(badge, file);
            if (block < 0 || block >= taken.length) {
                return -1;
            }
            taken[block] = false;
            return 0;
        }

        /** The block of a file, -1 if the file is not there. */
        int blockOf(int badge, int file) {
            for (int block = 0; block < Driver.BLOCKS; block++) {
                if (taken[block] && owners[block] == badge && files[block] == file) {
                    return block;
                }
            }
            return -1;
        }

        /** The block that the file got, -1 if none is free. */
        int newFile(int badge, int file) {
            for (int block = 0; block < Driver.BLOCKS; block++) {
                if (!taken[block]) {
                    taken[block] = true;
                    owners[block] = badge;
                    files[block] = file;
                    clearBuffer();
                    driver.writeBlock(block, buffer);
                    return block;
                }
            }
            return -1;
        }

        void clearBuffer() {
            for (int cell = 0; cell < buffer.length; cell++) {
                buffer[cell] = 0;
            }
        }

        int howManyFree() {
            int free = 0;
            for (int block = 0; block < Driver.BLOCKS; block++) {
                if (!taken[block]) {
                    free++;
                }
            }
            return free;
        }
    }

    /** DRIVER: moves whole blocks between the DISK and a buffer. */
    private static final class Driver {
        static final int BLOCKS = 6;
        static final int CELLS = 8;

        final int[] disk;
        int blocksRead;
        int blocksWritten;

        Driver() {
            disk = new int[BLOCKS * CELLS];
        }

        boolean fits(int block, int[] buffer) {
            return block >= 0 && block < BLOCKS && buffer.length == CELLS;
        }

        void readBlock(int block, int[] into) {
            if (fits(block, into)) {
                System.arraycopy(disk, block * CELLS, into, 0, CELLS);
                blocksRead++;
            }
        }

        void writeBlock(int block, int[] from) {
            if (fits(block, from)) {
                System.arraycopy(from, 0, disk, block * CELLS, CELLS);
                blocksWritten++;
            }
        }
    }
}
