// Promise 8: tick. TermsCacheTest has the term fail.
public final class Promise08TickTest {
    private static final Due due = new Due();

    public static void main(String[] args) {
        changesNothingWhereNothingAges();
        retransmitsThenFails();
        solicitsAtMostMaxSolicit();
        agesReachable();
        keepsStale();
        delaysThenProbesThenFails();
        probesAtMostMaxSolicit();
        handlesEveryEntryOnceWhicheverFail();
        failsAFullCacheInOneTick();
        keepsWhatIsBehindAFailedEntry();
        marksFailedRouters();
        probesOwnAddresses();
        probesOwnAtMostMaxSolicit();
        probesEightOwnAddresses();
        leavesSettledOwnAddresses();
        emitsInOrder();
        handlesEachEntryOnce();
        changesRoutersOnlyByMarks();
        due.end();
    }

    private static void changesNothingWhereNothingAges() {
        NeighborCache x = Make.plain();
        x.addRouter(7);
        x.addRouter(8);
        Make.preferred(x, 5);
        x.addAddress(6);
        x.receiveNA(6, 0, 0);
        Make.stale(x, 7, 70);
        Make.stale(x, 9, 90);
        String before = View.of(x);
        Make.ticks(x, 200);
        due.same("ticks", View.of(x), before);
    }

    private static void retransmitsThenFails() {
        NeighborCache x = Make.plain();
        x.send(9, false);
        x.send(9, false);
        x.tick();
        due.entry(x, 9, NeighborCache.INCOMPLETE, 0, 2, 1, 1);
        due.is("frames before the timer ends", x.frameCount(), 1);
        x.tick();
        due.entry(x, 9, NeighborCache.INCOMPLETE, 0, 2, 2, 2);
        due.is("frames after it ended", x.frameCount(), 2);
        due.frame(x, 1, NeighborCache.NS_MULTI, 9, 0, 0, 0);
        Make.ticks(x, 2);
        due.entry(x, 9, NeighborCache.INCOMPLETE, 0, 2, 2, 3);
        due.frame(x, 2, NeighborCache.NS_MULTI, 9, 0, 0, 0);
        x.tick();
        due.entry(x, 9, NeighborCache.INCOMPLETE, 0, 2, 1, 3);
        due.is("dropped() before the failure", x.dropped(), 0);
        x.tick();
        due.entry(x, 9, NeighborCache.NONE, 0, 0, 0, 0);
        due.cache(x);
        due.is("dropped() after the failure", x.dropped(), 2);
        due.is("frames after the failure", x.frameCount(), 3);
        due.is("send after the failure", x.send(9, false), 3);
        due.queue(x, 9, 3);
        due.entry(x, 9, NeighborCache.INCOMPLETE, 0, 1, 2, 1);
    }

    // INCOMPLETE: "if probes < maxSolicit, emit NS_MULTI [...]; else fail E", from the least settings to the greatest
    private static void solicitsAtMostMaxSolicit() {
        for (int most = 1; most <= 5; most++) {
            for (int retrans : new int[] {1, 2, 10}) {
                NeighborCache x = new NeighborCache(4, 10, retrans, most);
                x.send(9, false);
                for (int probes = 1; probes <= most; probes++) {
                    due.entry(x, 9, NeighborCache.INCOMPLETE, 0, 1, retrans, probes);
                    due.is("frameCount()", x.frameCount(), probes);
                    Make.ticks(x, retrans - 1);
                    due.entry(x, 9, NeighborCache.INCOMPLETE, 0, 1, 1, probes);
                    due.is("frameCount() at timer 1", x.frameCount(), probes);
                    x.tick();
                }
                due.cache(x);
                due.is("frames after the failure", x.frameCount(), most);
                due.is("dropped()", x.dropped(), 1);
            }
        }
    }

    // REACHABLE: "timer -1; when it reaches 0, enter STALE"
    private static void agesReachable() {
        for (int time : new int[] {2, 10, 60}) {
            NeighborCache x = new NeighborCache(4, time, 2, 3);
            Make.reachable(x, 9, 90);
            for (int left = time; left >= 1; left--) {
                due.entry(x, 9, NeighborCache.REACHABLE, 90, 0, left, 0);
                x.tick();
            }
            due.entry(x, 9, NeighborCache.STALE, 90, 0, 0, 0);
            due.is("frameCount()", x.frameCount(), 2);
        }
    }

    // "STALE: nothing."
    private static void keepsStale() {
        NeighborCache x = Make.plain();
        Make.stale(x, 9, 90);
        String before = View.of(x);
        Make.ticks(x, 200);
        due.same("ticks on STALE", View.of(x), before);
    }

    // DELAY: "when it reaches 0: state PROBE, probes 1, timer retransTime, emit NS_UNI"
    private static void delaysThenProbesThenFails() {
        NeighborCache x = new NeighborCache(4, 10, 3, 2);
        x.addRouter(9);
        Make.delay(x, 9, 90);
        Make.ticks(x, 4);
        due.entry(x, 9, NeighborCache.DELAY, 90, 0, 1, 0);
        due.is("frames in DELAY", x.frameCount(), 2);
        x.tick();
        due.entry(x, 9, NeighborCache.PROBE, 90, 0, 3, 1);
        due.is("frames at PROBE", x.frameCount(), 3);
        due.frame(x, 2, NeighborCache.NS_UNI, 9, 90, 0, 9);
        Make.ticks(x, 2);
        due.entry(x, 9, NeighborCache.PROBE, 90, 0, 1, 1);
        x.tick();
        due.entry(x, 9, NeighborCache.PROBE, 90, 0, 3, 2);
        due.is("frames in PROBE", x.frameCount(), 4);
        due.frame(x, 3, NeighborCache.NS_UNI, 9, 90, 0, 9);
        Make.ticks(x, 2);
        due.entry(x, 9, NeighborCache.PROBE, 90, 0, 1, 2);
        due.marks(x, 0);
        x.tick();
        due.cache(x);
        due.marks(x, 1);
        due.is("frames after the failure", x.frameCount(), 4);
        due.is("dropped()", x.dropped(), 0);
    }

    // PROBE: "if probes < maxSolicit, emit NS_UNI [...]; else fail E", from the least settings to the greatest
    private static void probesAtMostMaxSolicit() {
        for (int most = 1; most <= 5; most++) {
            for (int retrans : new int[] {1, 2, 10}) {
                NeighborCache x = new NeighborCache(4, 10, retrans, most);
                Make.probe(x, 9, 90);
                for (int probes = 1; probes <= most; probes++) {
                    due.entry(x, 9, NeighborCache.PROBE, 90, 0, retrans, probes);
                    due.is("frameCount()", x.frameCount(), 2 + probes);
                    due.frame(x, 1 + probes, NeighborCache.NS_UNI, 9, 90, 0, 9);
                    Make.ticks(x, retrans - 1);
                    due.entry(x, 9, NeighborCache.PROBE, 90, 0, 1, probes);
                    x.tick();
                }
                due.cache(x);
                due.is("frames after the failure", x.frameCount(), 2 + most);
            }
        }
    }

    // "every entry present at the start of the call is handled once, in age order"
    private static void handlesEveryEntryOnceWhicheverFail() {
        for (int failing = 0; failing < 64; failing++) {
            NeighborCache x = new NeighborCache(8, 60, 2, 1);
            StringBuilder left = new StringBuilder();
            for (int a = 0; a < 6; a++) {
                x.send(1 + a, false);
                if ((failing >> a & 1) == 0) {
                    x.receiveNA(1 + a, 90, NeighborCache.FLAG_SOLICITED);
                    left.append(" entry ").append(1 + a).append(": 2 90 0 58 0\n");
                }
            }
            Make.ticks(x, 2);
            due.same("failure of " + Integer.toBinaryString(failing), View.cache(x), left.toString());
            due.is("dropped()", x.dropped(), Integer.bitCount(failing));
        }
    }

    private static void failsAFullCacheInOneTick() {
        for (int size : new int[] {2, 16}) {
            NeighborCache x = new NeighborCache(size, 10, 3, 1);
            for (int i = 0; i < 3 * size; i++) {
                x.send(1 + i % size, false);
            }
            x.addRouter(size);
            Make.ticks(x, 2);
            due.is("last entry", x.entryAt(size - 1), size);
            due.is("dropped() before", x.dropped(), 0);
            x.tick();
            due.cache(x);
            due.is("dropped()", x.dropped(), 3 * size);
            due.marks(x, 1);
            due.is("frameCount()", x.frameCount(), size);
        }
    }

    // Neighbours of a deleted entry must be handled once, not skipped and not twice.
    private static void keepsWhatIsBehindAFailedEntry() {
        NeighborCache x = new NeighborCache(8, 10, 2, 1);
        x.send(1, false);
        x.send(2, false);
        Make.reachable(x, 3, 30);
        x.send(4, false);
        x.tick();
        x.send(5, false);
        Make.reachable(x, 6, 60);
        x.tick();
        due.cache(x, 3, 5, 6);
        due.entry(x, 3, NeighborCache.REACHABLE, 30, 0, 8, 0);
        due.entry(x, 5, NeighborCache.INCOMPLETE, 0, 1, 1, 1);
        due.queue(x, 5, 5);
        due.entry(x, 6, NeighborCache.REACHABLE, 60, 0, 9, 0);
        due.is("dropped()", x.dropped(), 3);
        x.receiveNA(5, 50, NeighborCache.FLAG_SOLICITED);
        due.frame(x, x.frameCount() - 1, NeighborCache.DATA, 5, 50, 5, 5);
    }

    private static void marksFailedRouters() {
        NeighborCache x = new NeighborCache(4, 10, 1, 1);
        x.addRouter(6);
        x.addRouter(7);
        x.addRouter(8);
        x.send(8, false);
        x.send(9, false);
        x.send(30, true);
        x.tick();
        due.marks(x, 1, 0, 1);
        due.is("dropped()", x.dropped(), 3);
        due.is("defaultRouter()", x.defaultRouter(), 7);
        x.tick();
        due.marks(x, 1, 0, 1);
    }

    private static void probesOwnAddresses() {
        NeighborCache x = Make.plain();
        x.addAddress(5);
        x.tick();
        x.addAddress(6);
        due.own(x, 5, NeighborCache.TENTATIVE, 1, 1);
        x.tick();
        due.own(x, 5, NeighborCache.TENTATIVE, 2, 2);
        due.own(x, 6, NeighborCache.TENTATIVE, 1, 1);
        due.is("frameCount()", x.frameCount(), 3);
        due.frame(x, 2, NeighborCache.NS_DAD, 5, 0, 0, 0);
        Make.ticks(x, 3);
        due.own(x, 5, NeighborCache.TENTATIVE, 1, 3);
        x.tick();
        due.own(x, 5, NeighborCache.PREFERRED, 0, 3);
        due.own(x, 6, NeighborCache.TENTATIVE, 1, 3);
        x.tick();
        due.own(x, 6, NeighborCache.PREFERRED, 0, 3);
        due.is("frames of both", x.frameCount(), 6);
    }

    // "if sent < maxSolicit, emit NS_DAD(address), sent +1, timer retransTime; else state PREFERRED, timer 0"
    private static void probesOwnAtMostMaxSolicit() {
        for (int most = 1; most <= 5; most++) {
            for (int retrans : new int[] {1, 2, 10}) {
                NeighborCache x = new NeighborCache(4, 10, retrans, most);
                x.addAddress(5);
                for (int sent = 1; sent <= most; sent++) {
                    due.own(x, 5, NeighborCache.TENTATIVE, retrans, sent);
                    due.is("frameCount()", x.frameCount(), sent);
                    due.frame(x, sent - 1, NeighborCache.NS_DAD, 5, 0, 0, 0);
                    Make.ticks(x, retrans - 1);
                    due.own(x, 5, NeighborCache.TENTATIVE, 1, sent);
                    x.tick();
                }
                due.own(x, 5, NeighborCache.PREFERRED, 0, most);
                due.is("frames of " + most, x.frameCount(), most);
            }
        }
    }

    private static void probesEightOwnAddresses() {
        NeighborCache x = Make.plain();
        for (int a = 1; a <= 8; a++) {
            x.addAddress(a);
        }
        Make.ticks(x, 5);
        for (int a = 1; a <= 8; a++) {
            due.own(x, a, NeighborCache.TENTATIVE, 1, 3);
        }
        x.tick();
        for (int a = 1; a <= 8; a++) {
            due.own(x, a, NeighborCache.PREFERRED, 0, 3);
        }
        due.is("frames of eight", x.frameCount(), 24);
    }

    // "PREFERRED and DUPLICATE addresses are untouched."
    private static void leavesSettledOwnAddresses() {
        NeighborCache x = Make.plain();
        Make.preferred(x, 5);
        x.addAddress(6);
        x.receiveNS(0, 6, 0);
        String before = View.of(x);
        Make.ticks(x, 50);
        due.same("ticks on settled own addresses", View.of(x), before);
        // nor do they keep one behind them from its probes
        x.addAddress(7);
        Make.ticks(x, 2);
        due.own(x, 7, NeighborCache.TENTATIVE, 2, 2);
    }

    // "Frames are emitted in the order the entries and addresses are handled."
    private static void emitsInOrder() {
        NeighborCache x = new NeighborCache(8, 60, 5, 3);
        x.addAddress(6);
        x.addAddress(5);
        Make.delay(x, 9, 90);
        x.send(8, false);
        Make.delay(x, 7, 70);
        Make.ticks(x, 4);
        int n = x.frameCount();
        x.tick();
        due.is("frames of one tick", x.frameCount(), n + 5);
        due.frame(x, n, NeighborCache.NS_UNI, 9, 90, 0, 9);
        due.frame(x, n + 1, NeighborCache.NS_MULTI, 8, 0, 0, 0);
        due.frame(x, n + 2, NeighborCache.NS_UNI, 7, 70, 0, 7);
        due.frame(x, n + 3, NeighborCache.NS_DAD, 6, 0, 0, 0);
        due.frame(x, n + 4, NeighborCache.NS_DAD, 5, 0, 0, 0);
    }

    // Whatever the tick does to an entry, the one behind it must age by one.
    private static void handlesEachEntryOnce() {
        NeighborCache x = new NeighborCache(16, 10, 5, 3);
        Make.stale(x, 1, 10);
        Make.reachable(x, 2, 20);
        Make.ticks(x, 4);
        Make.delay(x, 3, 30);
        x.send(4, false);
        Make.reachable(x, 5, 50);
        x.tick();
        Make.reachable(x, 6, 60);
        Make.ticks(x, 4);
        due.entry(x, 1, NeighborCache.STALE, 10, 0, 0, 0);
        due.entry(x, 2, NeighborCache.REACHABLE, 20, 0, 1, 0);
        due.entry(x, 3, NeighborCache.PROBE, 30, 0, 5, 1);
        due.entry(x, 4, NeighborCache.INCOMPLETE, 0, 1, 5, 2);
        due.entry(x, 5, NeighborCache.REACHABLE, 50, 0, 5, 0);
        due.entry(x, 6, NeighborCache.REACHABLE, 60, 0, 6, 0);
        x.tick();
        due.entry(x, 1, NeighborCache.STALE, 10, 0, 0, 0);
        due.entry(x, 2, NeighborCache.STALE, 20, 0, 0, 0);
        due.entry(x, 3, NeighborCache.PROBE, 30, 0, 4, 1);
        due.entry(x, 4, NeighborCache.INCOMPLETE, 0, 1, 4, 2);
        due.entry(x, 5, NeighborCache.REACHABLE, 50, 0, 4, 0);
        due.entry(x, 6, NeighborCache.REACHABLE, 60, 0, 5, 0);
        due.cache(x, 1, 2, 3, 4, 5, 6);
    }

    // "No entry is created"; "The router list changes only through such marks.": all marked stays all marked
    private static void changesRoutersOnlyByMarks() {
        NeighborCache x = Stage.MARKED.make();
        String routers = View.routers(x);
        Make.ticks(x, 70);
        due.same("ticks", View.routers(x), routers);
        // REACHABLE has become STALE, DELAY has failed
        due.cache(x, 12, 13);
        x = Stage.FULL.make();
        Make.ticks(x, 70);
        due.cache(x);
        due.marks(x, 1, 1, 1, 1);
    }
}
