// Promise 8: tick, and the term fail.
public final class Promise08TickTest {
    private static final Due due = new Due();

    public static void main(String[] args) {
        retransmitsThenFails();
        failsAfterOneSolicitation();
        agesReachable();
        keepsStale();
        delaysThenProbesThenFails();
        failsSeveralInOneTick();
        marksFailedRouters();
        probesOwnAddresses();
        probesEightOwnAddresses();
        leavesSettledOwnAddresses();
        emitsInOrder();
        handlesEachEntryOnce();
        due.end();
    }

    private static void retransmitsThenFails() {
        NeighborCache x = Make.plain();
        x.send(9, false);
        x.send(9, false);
        x.tick();
        due.entry(x, 9, NeighborCache.INCOMPLETE, 0, 2, 1, 1);
        due.is("frames before the timer ends", x.frameCount(), 1);
        x.tick();
        due.entry(x, 9, NeighborCache.INCOMPLETE, 0, 2, 2, 2);
        due.is("frames after it ended", x.frameCount(), 2);
        due.frame(x, 1, NeighborCache.NS_MULTI, 9, 0, 0, 0);
        Make.ticks(x, 2);
        due.entry(x, 9, NeighborCache.INCOMPLETE, 0, 2, 2, 3);
        due.frame(x, 2, NeighborCache.NS_MULTI, 9, 0, 0, 0);
        x.tick();
        due.entry(x, 9, NeighborCache.INCOMPLETE, 0, 2, 1, 3);
        due.is("dropped() before the failure", x.dropped(), 0);
        x.tick();
        due.entry(x, 9, NeighborCache.NONE, 0, 0, 0, 0);
        due.cache(x);
        due.is("dropped() after the failure", x.dropped(), 2);
        due.is("frames after the failure", x.frameCount(), 3);
        due.is("send after the failure", x.send(9, false), 3);
        due.queue(x, 9, 3);
        due.entry(x, 9, NeighborCache.INCOMPLETE, 0, 1, 2, 1);
    }

    private static void failsAfterOneSolicitation() {
        NeighborCache x = new NeighborCache(4, 10, 1, 1);
        x.send(9, false);
        x.tick();
        due.cache(x);
        due.is("dropped()", x.dropped(), 1);
        due.is("frameCount()", x.frameCount(), 1);
    }

    private static void agesReachable() {
        NeighborCache x = Make.plain();
        Make.reachable(x, 9, 90);
        x.tick();
        due.entry(x, 9, NeighborCache.REACHABLE, 90, 0, 9, 0);
        Make.ticks(x, 8);
        due.entry(x, 9, NeighborCache.REACHABLE, 90, 0, 1, 0);
        x.tick();
        due.entry(x, 9, NeighborCache.STALE, 90, 0, 0, 0);
        due.is("frameCount()", x.frameCount(), 2);
    }

    private static void keepsStale() {
        NeighborCache x = Make.plain();
        Make.stale(x, 9, 90);
        String before = View.of(x);
        Make.ticks(x, 200);
        due.same("ticks on STALE", View.of(x), before);
    }

    private static void delaysThenProbesThenFails() {
        NeighborCache x = new NeighborCache(4, 10, 3, 2);
        x.addRouter(9);
        Make.delay(x, 9, 90);
        Make.ticks(x, 4);
        due.entry(x, 9, NeighborCache.DELAY, 90, 0, 1, 0);
        due.is("frames in DELAY", x.frameCount(), 2);
        x.tick();
        due.entry(x, 9, NeighborCache.PROBE, 90, 0, 3, 1);
        due.is("frames at PROBE", x.frameCount(), 3);
        due.frame(x, 2, NeighborCache.NS_UNI, 9, 90, 0, 9);
        Make.ticks(x, 2);
        due.entry(x, 9, NeighborCache.PROBE, 90, 0, 1, 1);
        x.tick();
        due.entry(x, 9, NeighborCache.PROBE, 90, 0, 3, 2);
        due.is("frames in PROBE", x.frameCount(), 4);
        due.frame(x, 3, NeighborCache.NS_UNI, 9, 90, 0, 9);
        Make.ticks(x, 2);
        due.entry(x, 9, NeighborCache.PROBE, 90, 0, 1, 2);
        due.marks(x, 0);
        x.tick();
        due.cache(x);
        due.marks(x, 1);
        due.is("frames after the failure", x.frameCount(), 4);
        due.is("dropped()", x.dropped(), 0);
    }

    // Neighbours of a deleted entry must be handled once, not skipped and not twice.
    private static void failsSeveralInOneTick() {
        NeighborCache x = new NeighborCache(8, 10, 2, 1);
        x.send(1, false);
        x.send(2, false);
        Make.reachable(x, 3, 30);
        x.send(4, false);
        x.tick();
        x.send(5, false);
        Make.reachable(x, 6, 60);
        x.tick();
        due.cache(x, 3, 5, 6);
        due.entry(x, 3, NeighborCache.REACHABLE, 30, 0, 8, 0);
        due.entry(x, 5, NeighborCache.INCOMPLETE, 0, 1, 1, 1);
        due.queue(x, 5, 5);
        due.entry(x, 6, NeighborCache.REACHABLE, 60, 0, 9, 0);
        due.is("dropped()", x.dropped(), 3);
        x.receiveNA(5, 50, NeighborCache.FLAG_SOLICITED);
        due.frame(x, x.frameCount() - 1, NeighborCache.DATA, 5, 50, 5, 5);
    }

    private static void marksFailedRouters() {
        NeighborCache x = new NeighborCache(4, 10, 1, 1);
        x.addRouter(6);
        x.addRouter(7);
        x.addRouter(8);
        x.send(8, false);
        x.send(9, false);
        x.send(30, true);
        x.tick();
        due.marks(x, 1, 0, 1);
        due.is("dropped()", x.dropped(), 3);
        due.is("defaultRouter()", x.defaultRouter(), 7);
        x.tick();
        due.marks(x, 1, 0, 1);
    }

    private static void probesOwnAddresses() {
        NeighborCache x = Make.plain();
        x.addAddress(5);
        x.tick();
        x.addAddress(6);
        due.own(x, 5, NeighborCache.TENTATIVE, 1, 1);
        x.tick();
        due.own(x, 5, NeighborCache.TENTATIVE, 2, 2);
        due.own(x, 6, NeighborCache.TENTATIVE, 1, 1);
        due.is("frameCount()", x.frameCount(), 3);
        due.frame(x, 2, NeighborCache.NS_DAD, 5, 0, 0, 0);
        Make.ticks(x, 3);
        due.own(x, 5, NeighborCache.TENTATIVE, 1, 3);
        x.tick();
        due.own(x, 5, NeighborCache.PREFERRED, 0, 3);
        due.own(x, 6, NeighborCache.TENTATIVE, 1, 3);
        x.tick();
        due.own(x, 6, NeighborCache.PREFERRED, 0, 3);
        due.is("frames of both", x.frameCount(), 6);

        x = new NeighborCache(4, 10, 1, 1);
        x.addAddress(5);
        x.tick();
        due.own(x, 5, NeighborCache.PREFERRED, 0, 1);
        due.is("frames of one probe", x.frameCount(), 1);
    }

    private static void probesEightOwnAddresses() {
        NeighborCache x = Make.plain();
        for (int a = 1; a <= 8; a++) {
            x.addAddress(a);
        }
        Make.ticks(x, 5);
        for (int a = 1; a <= 8; a++) {
            due.own(x, a, NeighborCache.TENTATIVE, 1, 3);
        }
        x.tick();
        for (int a = 1; a <= 8; a++) {
            due.own(x, a, NeighborCache.PREFERRED, 0, 3);
        }
        due.is("frames of eight", x.frameCount(), 24);
    }

    private static void leavesSettledOwnAddresses() {
        NeighborCache x = Make.plain();
        Make.preferred(x, 5);
        x.addAddress(6);
        x.receiveNS(0, 6, 0);
        String before = View.of(x);
        Make.ticks(x, 50);
        due.same("ticks on settled own addresses", View.of(x), before);
    }

    private static void emitsInOrder() {
        NeighborCache x = new NeighborCache(8, 60, 5, 3);
        x.addAddress(6);
        x.addAddress(5);
        Make.delay(x, 9, 90);
        x.send(8, false);
        Make.delay(x, 7, 70);
        Make.ticks(x, 4);
        int n = x.frameCount();
        x.tick();
        due.is("frames of one tick", x.frameCount(), n + 5);
        due.frame(x, n, NeighborCache.NS_UNI, 9, 90, 0, 9);
        due.frame(x, n + 1, NeighborCache.NS_MULTI, 8, 0, 0, 0);
        due.frame(x, n + 2, NeighborCache.NS_UNI, 7, 70, 0, 7);
        due.frame(x, n + 3, NeighborCache.NS_DAD, 6, 0, 0, 0);
        due.frame(x, n + 4, NeighborCache.NS_DAD, 5, 0, 0, 0);
    }

    // Whatever the tick does to an entry, the one behind it must age by one.
    private static void handlesEachEntryOnce() {
        NeighborCache x = new NeighborCache(16, 10, 5, 3);
        Make.stale(x, 1, 10);
        Make.reachable(x, 2, 20);
        Make.ticks(x, 4);
        Make.delay(x, 3, 30);
        x.send(4, false);
        Make.reachable(x, 5, 50);
        x.tick();
        Make.reachable(x, 6, 60);
        Make.ticks(x, 4);
        due.entry(x, 1, NeighborCache.STALE, 10, 0, 0, 0);
        due.entry(x, 2, NeighborCache.REACHABLE, 20, 0, 1, 0);
        due.entry(x, 3, NeighborCache.PROBE, 30, 0, 5, 1);
        due.entry(x, 4, NeighborCache.INCOMPLETE, 0, 1, 5, 2);
        due.entry(x, 5, NeighborCache.REACHABLE, 50, 0, 5, 0);
        due.entry(x, 6, NeighborCache.REACHABLE, 60, 0, 6, 0);
        x.tick();
        due.entry(x, 1, NeighborCache.STALE, 10, 0, 0, 0);
        due.entry(x, 2, NeighborCache.STALE, 20, 0, 0, 0);
        due.entry(x, 3, NeighborCache.PROBE, 30, 0, 4, 1);
        due.entry(x, 4, NeighborCache.INCOMPLETE, 0, 1, 4, 2);
        due.entry(x, 5, NeighborCache.REACHABLE, 50, 0, 4, 0);
        due.entry(x, 6, NeighborCache.REACHABLE, 60, 0, 5, 0);
        due.cache(x, 1, 2, 3, 4, 5, 6);
    }
}
