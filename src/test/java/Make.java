// Brings an object into the state that a test starts from.
final class Make {
    private Make() {
    }

    // The object that most tests use: room for 4, reachable 10, retransmit 2, at most 3 solicitations.
    static NeighborCache plain() {
        return new NeighborCache(4, 10, 2, 3);
    }

    static void ticks(NeighborCache x, int n) {
        for (int i = 0; i < n; i++) {
            x.tick();
        }
    }

    // Uses one packet id and emits two frames.
    static void reachable(NeighborCache x, int a, int link) {
        x.send(a, false);
        x.receiveNA(a, link, NeighborCache.FLAG_SOLICITED);
    }

    // As reachable; then an advertisement without override whose link differs.
    static void stale(NeighborCache x, int a, int link) {
        reachable(x, a, link);
        x.receiveNA(a, link == 1 ? 2 : 1, 0);
    }

    // Uses one packet id and emits two frames.
    static void delay(NeighborCache x, int a, int link) {
        x.send(a, false);
        x.receiveNA(a, link, 0);
    }

    // Time passes: every other entry ages by DELAY_TIME too.
    static void probe(NeighborCache x, int a, int link) {
        delay(x, a, link);
        ticks(x, NeighborCache.DELAY_TIME);
    }

    // Time passes until a is PREFERRED; a must be new, and retransmit 2 and 3 solicitations set.
    static void preferred(NeighborCache x, int a) {
        x.addAddress(a);
        ticks(x, 6);
    }

    // An entry in any of the states behind INCOMPLETE; time passes for PROBE.
    static void inState(NeighborCache x, int state, int a, int link) {
        if (state == NeighborCache.REACHABLE) {
            reachable(x, a, link);
        } else if (state == NeighborCache.STALE) {
            stale(x, a, link);
        } else if (state == NeighborCache.DELAY) {
            delay(x, a, link);
        } else {
            probe(x, a, link);
        }
    }
}
