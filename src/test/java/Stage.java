// Objects that a test starts from, each made anew and the same every time: an empty one, one with
// something of everything and room left, and two in which everything is full. StageTest holds what
// is said of them here.
enum Stage {
    // room for 4 entries, reachable 10, retransmit 2, at most 3 solicitations
    EMPTY,
    // an entry in each state and one own address in each state; of two routers the first is marked,
    // the second has packets waiting for other destinations; room for 2 entries more
    BUSY,
    // 4 entries, all INCOMPLETE; 8 own addresses; 4 routers, all but the last marked; over 64 frames
    FULL,
    // 3 entries, none INCOMPLETE, and no room; 4 routers, all marked
    MARKED;

    // The addresses in these objects, by state where there is one of each.
    static final int[] ENTRY = {0, 11, 12, 13, 14, 15};
    static final int[] OWN = {0, 21, 22, 23};
    static final int FIRST_ROUTER = 31;

    // No stage knows these.
    static final int STRANGER = 50;
    // Some differ from a known address only in bits that a valid one has not.
    static final int[] NOT_VALID = {0, -1, -11, -12, 65536, 65536 + 11, 65536 + 12, 65536 + 21, 65536 + 22,
        65536 + 31, Integer.MIN_VALUE, Integer.MIN_VALUE + 12, Integer.MAX_VALUE};
    // As above, but for what may be absent: 0 is then no fault.
    static final int[] OUTSIDE = {-1, -11, 65536, 65536 + 11, Integer.MIN_VALUE, Integer.MAX_VALUE};

    NeighborCache make() {
        switch (this) {
            case EMPTY:
                return Make.plain();
            case BUSY:
                return busy();
            case FULL:
                return full();
            default:
                return marked();
        }
    }

    private static NeighborCache busy() {
        NeighborCache x = new NeighborCache(8, 20, 2, 3);
        addRouters(x, 2);
        x.addAddress(OWN[NeighborCache.DUPLICATE]);
        x.receiveNA(OWN[NeighborCache.DUPLICATE], 0, 0);
        x.send(FIRST_ROUTER, false);
        Make.preferred(x, OWN[NeighborCache.PREFERRED]);
        Make.probe(x, ENTRY[NeighborCache.PROBE], 150);
        x.tick();
        Make.reachable(x, ENTRY[NeighborCache.REACHABLE], 120);
        x.tick();
        Make.stale(x, ENTRY[NeighborCache.STALE], 130);
        Make.delay(x, ENTRY[NeighborCache.DELAY], 140);
        x.send(ENTRY[NeighborCache.INCOMPLETE], false);
        x.send(ENTRY[NeighborCache.INCOMPLETE], false);
        x.addAddress(OWN[NeighborCache.TENTATIVE]);
        x.send(41, true);
        x.send(42, true);
        x.tick();
        return x;
    }

    private static NeighborCache full() {
        NeighborCache x = new NeighborCache(4, 60, 10, 5);
        addRouters(x, 4);
        for (int r = FIRST_ROUTER; r < FIRST_ROUTER + 3; r++) {
            x.send(r, false);
        }
        x.addAddress(OWN[NeighborCache.DUPLICATE]);
        x.receiveNA(OWN[NeighborCache.DUPLICATE], 0, 0);
        x.addAddress(OWN[NeighborCache.PREFERRED]);
        Make.ticks(x, 50);
        Make.reachable(x, 10, 100);
        for (int i = 0; i < 60; i++) {
            x.send(10, false);
        }
        for (int i = 0; i < 4; i++) {
            x.send(41 + i, true);
            x.send(11, false);
        }
        x.send(12, false);
        x.send(12, false);
        x.tick();
        // the fifth entry: the one for 10 makes room
        x.send(13, false);
        x.addAddress(OWN[NeighborCache.TENTATIVE]);
        for (int a = 24; a < 29; a++) {
            x.addAddress(a);
        }
        return x;
    }

    private static NeighborCache marked() {
        NeighborCache x = new NeighborCache(3, 10, 1, 1);
        addRouters(x, 4);
        for (int r = FIRST_ROUTER; r < FIRST_ROUTER + 3; r++) {
            x.send(r, false);
        }
        x.tick();
        x.send(FIRST_ROUTER + 3, false);
        x.addAddress(OWN[NeighborCache.PREFERRED]);
        x.tick();
        Make.reachable(x, ENTRY[NeighborCache.REACHABLE], 120);
        Make.stale(x, ENTRY[NeighborCache.STALE], 130);
        Make.delay(x, ENTRY[NeighborCache.DELAY], 140);
        return x;
    }

    private static void addRouters(NeighborCache x, int n) {
        for (int i = 0; i < n; i++) {
            x.addRouter(FIRST_ROUTER + i);
        }
    }
}
