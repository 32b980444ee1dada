/** The edges of ADDRESSES, at each place where a call takes one. */
public final class EdgesAddressesTest {
    private interface Use {
        int of(CapKernel k, int address);
    }

    /** One argument that is an ADDRESS: of a capability, or of a SLOT alone. */
    private static final class Place {
        final String name;
        final boolean isOfCapability;
        final boolean mayBeNone;
        final Use use;

        Place(String name, boolean isOfCapability, boolean mayBeNone, Use use) {
            this.name = name;
            this.isOfCapability = isOfCapability;
            this.mayBeNone = mayBeNone;
            this.use = use;
        }
    }

    private static final Place[] PLACES = {
        new Place("copy, from", true, false, (k, a) -> k.copy(a, 6, 7)),
        new Place("copy, to", false, false, (k, a) -> k.copy(2, a, 7)),
        new Place("mint, from", true, false, (k, a) -> k.mint(a, 6, 7, 1)),
        new Place("mint, to", false, false, (k, a) -> k.mint(2, a, 7, 1)),
        new Place("move, from", true, false, (k, a) -> k.move(a, 6)),
        new Place("move, to", false, false, (k, a) -> k.move(2, a)),
        new Place("delete", true, false, (k, a) -> k.delete(a)),
        new Place("revoke", true, false, (k, a) -> k.revoke(a)),
        new Place("retype, from", true, false, (k, a) -> k.retype(a, 1, 6)),
        new Place("retype, to", false, false, (k, a) -> k.retype(1, 1, a)),
        new Place("send, at", true, false, (k, a) -> k.send(a, 5, -1)),
        new Place("send, with", true, true, (k, a) -> k.send(2, 5, a)),
        new Place("call", true, false, (k, a) -> k.call(a, 5)),
        new Place("receive, at", true, false, (k, a) -> k.receive(a, -1)),
        new Place("receive, into", false, true, (k, a) -> k.receive(2, a)),
        new Place("signal", true, false, (k, a) -> k.signal(a)),
        new Place("await", true, false, (k, a) -> k.await(a)),
        new Place("look", true, false, (k, a) -> k.look(1, a, 0)),
    };

    public static void main(String[] args) {
        Check check = new Check("edges, addresses");
        for (Place place : PLACES) {
            outsideTheRange(check, place);
            noneWhereItIsTold(check, place);
            noTableOnTheWay(check, place);
            emptySlots(check, place);
            slotsOfATable(check, place);
        }
        eachSlotOfTheRootLeadsOn(check);
        eachSlotIsOneOfItsOwn(check);
        othersRoots(check);
        anEmptiedRootIsStillThere(check);
        check.end();
    }

    private static void outsideTheRange(Check check, Place place) {
        check.about("numbers in their range (ADDRESSES 0 .. 71, -1 where it is told): IllegalArgumentException");
        int[] wrong = {Integer.MIN_VALUE, Integer.MIN_VALUE + 8, -72, -8, -2, 72, 73, 79, 80, 99, Integer.MAX_VALUE};
        for (int address : wrong) {
            check.refuses(Check.ARGUMENT, place.name + " " + address, Check.NEW, k -> place.use.of(k, address));
        }
    }

    private static void noneWhereItIsTold(Check check, Place place) {
        check.about("-1 where it is told");
        if (place.mayBeNone) {
            check.is(place.name + " -1", 1, place.use.of(new CapKernel(), -1));
        } else {
            check.refuses(Check.ARGUMENT, place.name + " -1", Check.NEW, k -> place.use.of(k, -1));
        }
    }

    private static void noTableOnTheWay(Check check, Place place) {
        check.about("8 + 8 * i + j is SLOT j of the TABLE for which SLOT i of the ROOT has a capability");
        // SLOTS 0 to 3 of a new ROOT have capabilities for other kinds, the rest none.
        for (int address = 8; address <= 71; address++) {
            int at = address;
            check.refuses(Check.NOTHING_THERE, place.name + " " + at, Check.NEW, k -> place.use.of(k, at));
        }
    }

    private static void emptySlots(Check check, Place place) {
        check.about("ADDRESSES lead to a SLOT, those of capabilities to one that has one");
        for (int address = 4; address <= 7; address++) {
            int at = address;
            if (place.isOfCapability) {
                check.refuses(Check.NOTHING_THERE, place.name + " " + at, Check.NEW, k -> place.use.of(k, at));
            } else {
                check.takes(place.name + " " + at, Check.NEW, k -> place.use.of(k, at));
            }
        }
    }

    private static void slotsOfATable(Check check, Place place) {
        check.about("TABLE 3 (8 SLOTS)");
        Check.Setup table = k -> k.retype(1, 3, 5);
        for (int slot = 0; slot < 8; slot++) {
            int at = Check.in(5, slot);
            if (place.isOfCapability) {
                check.refuses(Check.NOTHING_THERE, place.name + " " + at, table, k -> place.use.of(k, at));
            } else {
                check.takes(place.name + " " + at, table, k -> place.use.of(k, at));
            }
        }
        check.refuses(Check.NOTHING_THERE, place.name + " before it", table, k -> place.use.of(k, Check.in(5, -1)));
        check.refuses(Check.NOTHING_THERE, place.name + " behind it", table, k -> place.use.of(k, Check.in(5, 8)));
    }

    private static void eachSlotOfTheRootLeadsOn(Check check) {
        check.about("8 + 8 * i + j is SLOT j of the TABLE for which SLOT i of the ROOT has a capability");
        for (int rootSlot = 0; rootSlot < 8; rootSlot++) {
            CapKernel k = new CapKernel();
            k.copy(1, 4, 7);
            k.mint(3, 5, 7, 99);
            int untyped = rootSlot == 4 ? 1 : 4;
            int marked = rootSlot == 5 ? 6 : 5;
            if (marked == 6) {
                k.move(5, 6);
            }
            if (!Check.isEmpty(k, 1, rootSlot)) {
                k.delete(rootSlot);
            }
            k.retype(untyped, 3, rootSlot);
            for (int slot = 0; slot < 8; slot++) {
                check.is("copy into SLOT " + slot + " by " + rootSlot, slot % 4,
                        k.copy(marked, Check.in(rootSlot, slot), slot % 4));
                check.looks(k, 1, Check.in(rootSlot, slot), 2, slot % 4, 99, 0, 0);
            }
            check.is("all of them came of it", 8, k.look(1, marked, 3));
        }
    }

    private static void eachSlotIsOneOfItsOwn(Check check) {
        check.about("An ADDRESS 0 .. 7 is a SLOT of the ROOT");
        CapKernel k = new CapKernel();
        k.retype(1, 3, 7);
        for (int slot = 0; slot < 8; slot++) {
            k.mint(3, Check.in(7, slot), 7, 10 + slot);
        }
        for (int slot = 0; slot < 8; slot++) {
            check.is("BADGE in SLOT " + slot, 10 + slot, k.look(1, 64 + slot, 2));
        }
        check.isEmptyAt(k, 1, 4);
        check.isEmptyAt(k, 1, 5);
        check.isEmptyAt(k, 1, 6);
        for (int slot = 4; slot < 7; slot++) {
            k.mint(3, slot, 7, 20 + slot);
        }
        for (int slot = 4; slot < 7; slot++) {
            check.is("BADGE in ROOT SLOT " + slot, 20 + slot, k.look(1, slot, 2));
        }
        check.is("BADGE at the last ADDRESS", 17, k.look(1, 71, 2));
    }

    private static void othersRoots(Check check) {
        check.about("the clients 1, 2, 3, each with a ROOT, a TABLE of its own that is never gone");
        for (int thread = 1; thread <= 3; thread++) {
            CapKernel k = Check.passTo(new CapKernel(), thread);
            k.mint(2, 7, 7, 50 + thread);
            for (int other = 1; other <= 3; other++) {
                if (other == thread) {
                    check.looks(k, other, 7, 1, 7, 50 + thread, 0, 0);
                } else {
                    check.isEmptyAt(k, other, 7);
                }
            }
        }
    }

    private static void anEmptiedRootIsStillThere(Check check) {
        check.about("(NAMES, FILES and ROOTS are never gone.)");
        CapKernel k = new CapKernel();
        k.retype(1, 1, 4);
        Check.share(k, 4, 5);
        Check.passTo(k, 2);
        for (int slot = 0; slot < 4; slot++) {
            k.delete(slot);
        }
        check.is("2 receives by its last capability", 1, k.receive(5, 7));
        check.is("that is taken back", 2, Check.passTo(k, 1).revoke(4));
        check.is("nothing is left of 2's", 9, k.count(0));
        check.is("but it still receives", 0, k.send(4, 8, 3));
        check.heard(k, 2, 0, 0, 8, 0, 7);
        check.looks(k, 2, 7, 2, 7, 0, 0, 0);
    }
}
