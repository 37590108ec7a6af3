// Promise 6: receiveNS.
public final class Promise06ReceiveNSTest {
    private static final Due due = new Due();

    public static void main(String[] args) {
        refuses();
        ignoresUnknownAndDuplicate();
        endsTentativeByProbe();
        answersUnspecified();
        answersWithoutLink();
        createsStale();
        evictsForSource();
        answersWhenCreationFails();
        resolvesIncomplete();
        updatesResolved();
        due.end();
    }

    private static void refuses() {
        NeighborCache x = Make.plain();
        Make.preferred(x, 5);
        x.addAddress(6);
        String before = View.of(x);
        for (int bad : new int[] {-1, 65536, Integer.MIN_VALUE, Integer.MAX_VALUE}) {
            due.no("receiveNS(" + bad + ", 5, 1)", x.receiveNS(bad, 5, 1));
            due.no("receiveNS(" + bad + ", 5, 0)", x.receiveNS(bad, 5, 0));
            due.no("receiveNS(9, " + bad + ", 1)", x.receiveNS(9, bad, 1));
            due.no("receiveNS(9, 5, " + bad + ")", x.receiveNS(9, 5, bad));
            due.no("receiveNS(0, 6, " + bad + ")", x.receiveNS(0, 6, bad));
        }
        due.no("receiveNS(9, 0, 1)", x.receiveNS(9, 0, 1));
        due.no("receiveNS(0, 0, 0)", x.receiveNS(0, 0, 0));
        due.no("receiveNS(0, 5, 1)", x.receiveNS(0, 5, 1));
        due.no("receiveNS(0, 6, 1)", x.receiveNS(0, 6, 1));
        due.no("receiveNS(0, 7, 1) on a foreign target", x.receiveNS(0, 7, 1));
        due.same("refused receiveNS", View.of(x), before);
    }

    private static void ignoresUnknownAndDuplicate() {
        NeighborCache x = Make.plain();
        x.addAddress(6);
        x.receiveNA(6, 0, 0);
        x.send(9, false);
        String before = View.of(x);
        for (int t : new int[] {1, 6, 9, 65535}) {
            due.yes("receiveNS(0, " + t + ", 0)", x.receiveNS(0, t, 0));
            due.yes("receiveNS(9, " + t + ", 0)", x.receiveNS(9, t, 0));
            due.yes("receiveNS(9, " + t + ", 90)", x.receiveNS(9, t, 90));
            due.yes("receiveNS(65535, " + t + ", 65535)", x.receiveNS(65535, t, 65535));
        }
        due.same("receiveNS for no own address", View.of(x), before);
    }

    private static void endsTentativeByProbe() {
        NeighborCache x = Make.plain();
        x.addAddress(6);
        Make.ticks(x, 3);
        x.send(9, false);
        String before = View.of(x);
        due.yes("receiveNS(9, 6, 0)", x.receiveNS(9, 6, 0));
        due.yes("receiveNS(9, 6, 90)", x.receiveNS(9, 6, 90));
        due.same("receiveNS from a known source on TENTATIVE", View.of(x), before);
        int frames = x.frameCount();
        due.yes("receiveNS(0, 6, 0)", x.receiveNS(0, 6, 0));
        due.own(x, 6, NeighborCache.DUPLICATE, 0, 2);
        due.is("frames by the probe", x.frameCount(), frames);
        due.cache(x, 9);
    }

    // An object whose own address 5 is PREFERRED; three frames, no packet.
    private static NeighborCache withPreferred(int cacheSize) {
        NeighborCache x = new NeighborCache(cacheSize, 10, 2, 3);
        Make.preferred(x, 5);
        due.own(x, 5, NeighborCache.PREFERRED, 0, 3);
        due.is("frames to start from", x.frameCount(), 3);
        return x;
    }

    private static void answersUnspecified() {
        NeighborCache x = withPreferred(4);
        due.yes("receiveNS(0, 5, 0)", x.receiveNS(0, 5, 0));
        due.is("frameCount()", x.frameCount(), 4);
        due.frame(x, 3, NeighborCache.NA, 5, 0, 0, 0);
        due.own(x, 5, NeighborCache.PREFERRED, 0, 3);
        due.cache(x);
    }

    private static void answersWithoutLink() {
        NeighborCache x = withPreferred(4);
        due.yes("receiveNS(9, 5, 0) from an unknown source", x.receiveNS(9, 5, 0));
        due.frame(x, 3, NeighborCache.NA, 5, 0, 0, 9);
        due.cache(x);
        x.send(9, false);
        due.yes("receiveNS(9, 5, 0) from an INCOMPLETE source", x.receiveNS(9, 5, 0));
        due.frame(x, 5, NeighborCache.NA, 5, 0, 0, 9);
        due.entry(x, 9, NeighborCache.INCOMPLETE, 0, 1, 2, 1);
        x.receiveNA(9, 90, NeighborCache.FLAG_SOLICITED);
        due.yes("receiveNS(9, 5, 0) from a REACHABLE source", x.receiveNS(9, 5, 0));
        due.frame(x, 7, NeighborCache.NA, 5, 0, 0, 9);
        due.entry(x, 9, NeighborCache.REACHABLE, 90, 0, 10, 0);
        due.is("frameCount()", x.frameCount(), 8);
    }

    private static void createsStale() {
        NeighborCache x = withPreferred(4);
        due.yes("receiveNS(65535, 5, 65535)", x.receiveNS(65535, 5, 65535));
        due.yes("receiveNS(1, 5, 1)", x.receiveNS(1, 5, 1));
        due.cache(x, 65535, 1);
        due.entry(x, 65535, NeighborCache.STALE, 65535, 0, 0, 0);
        due.entry(x, 1, NeighborCache.STALE, 1, 0, 0, 0);
        due.is("frameCount()", x.frameCount(), 5);
        due.frame(x, 3, NeighborCache.NA, 5, 65535, 0, 65535);
        due.frame(x, 4, NeighborCache.NA, 5, 1, 0, 1);
    }

    private static void evictsForSource() {
        NeighborCache x = withPreferred(2);
        x.addRouter(8);
        x.send(7, false);
        Make.reachable(x, 8, 80);
        due.yes("receiveNS(9, 5, 90) with a full cache", x.receiveNS(9, 5, 90));
        due.cache(x, 7, 9);
        due.entry(x, 9, NeighborCache.STALE, 90, 0, 0, 0);
        due.queue(x, 7, 1);
        due.is("dropped()", x.dropped(), 0);
        due.marks(x, 0);
        // a place once used by a queue holds none now
        x.receiveNA(7, 70, NeighborCache.FLAG_SOLICITED);
        due.yes("receiveNS(10, 5, 91)", x.receiveNS(10, 5, 91));
        due.cache(x, 9, 10);
        due.entry(x, 10, NeighborCache.STALE, 91, 0, 0, 0);
        due.queue(x, 10);
    }

    private static void answersWhenCreationFails() {
        NeighborCache x = withPreferred(2);
        x.send(7, false);
        x.send(8, false);
        due.yes("receiveNS(9, 5, 90) without room", x.receiveNS(9, 5, 90));
        due.cache(x, 7, 8);
        due.queue(x, 7, 1);
        due.queue(x, 8, 2);
        due.is("frameCount()", x.frameCount(), 6);
        due.frame(x, 5, NeighborCache.NA, 5, 90, 0, 9);
        due.is("dropped()", x.dropped(), 0);
    }

    private static void resolvesIncomplete() {
        NeighborCache x = withPreferred(4);
        x.addRouter(9);
        x.send(9, false);
        x.send(31, true);
        due.yes("receiveNS(9, 5, 90)", x.receiveNS(9, 5, 90));
        due.entry(x, 9, NeighborCache.DELAY, 90, 0, 5, 0);
        due.queue(x, 9);
        due.is("frameCount()", x.frameCount(), 7);
        due.frame(x, 4, NeighborCache.DATA, 9, 90, 1, 9);
        due.frame(x, 5, NeighborCache.DATA, 31, 90, 2, 9);
        due.frame(x, 6, NeighborCache.NA, 5, 90, 0, 9);
        due.is("dropped()", x.dropped(), 0);
    }

    private static void updatesResolved() {
        for (int state = NeighborCache.REACHABLE; state <= NeighborCache.PROBE; state++) {
            NeighborCache x = withPreferred(4);
            Make.inState(x, state, 9, 90);
            x.tick();
            int timer = x.entryInfo(9, NeighborCache.INFO_TIMER);
            int probes = x.entryInfo(9, NeighborCache.INFO_PROBES);
            int frames = x.frameCount();
            due.yes("receiveNS(9, 5, 90) in " + state, x.receiveNS(9, 5, 90));
            due.entry(x, 9, state, 90, 0, timer, probes);
            due.frame(x, frames, NeighborCache.NA, 5, 90, 0, 9);
            due.yes("receiveNS(9, 5, 91) in " + state, x.receiveNS(9, 5, 91));
            due.entry(x, 9, NeighborCache.STALE, 91, 0, 0, 0);
            due.frame(x, frames + 1, NeighborCache.NA, 5, 91, 0, 9);
            due.is("frames in " + state, x.frameCount(), frames + 2);
        }
    }
}
