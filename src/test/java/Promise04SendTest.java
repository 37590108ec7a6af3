// Promise 4: send, and the terms create entry, transmit and selected router.
public final class Promise04SendTest {
    private static final Due due = new Due();

    public static void main(String[] args) {
        refuses();
        startsResolution();
        queuesThree();
        transmitsWhenResolved();
        sendsOffLinkByTheRouter();
        resetsMarksWhenAllAreMarked();
        evictsTheOldestResolved();
        dropsWhenCreationFails();
        dropsButKeepsTheMarkReset();
        fillsEveryQueueOfTheLargestCache();
        resetsTheMarksOfAFullList();
        mayResolveAnOwnAddress();
        due.end();
    }

    private static void refuses() {
        NeighborCache x = Make.plain();
        String before = View.of(x);
        for (int dst : new int[] {0, -1, 65536, Integer.MIN_VALUE, Integer.MAX_VALUE}) {
            due.is("send(" + dst + ", false)", x.send(dst, false), NeighborCache.REFUSED);
            due.is("send(" + dst + ", true)", x.send(dst, true), NeighborCache.REFUSED);
        }
        due.is("send(9, true) without a router", x.send(9, true), NeighborCache.REFUSED);
        due.same("refused send", View.of(x), before);
        x.addRouter(7);
        due.is("send(0, true) with a router", x.send(0, true), NeighborCache.REFUSED);
        due.is("first accepted send", x.send(9, true), 1);
    }

    private static void startsResolution() {
        NeighborCache x = new NeighborCache(4, 10, 6, 3);
        due.is("send(1, false)", x.send(1, false), 1);
        due.is("send(65535, false)", x.send(65535, false), 2);
        due.cache(x, 1, 65535);
        due.entry(x, 1, NeighborCache.INCOMPLETE, 0, 1, 6, 1);
        due.entry(x, 65535, NeighborCache.INCOMPLETE, 0, 1, 6, 1);
        due.queue(x, 1, 1);
        due.queue(x, 65535, 2);
        due.is("frameCount()", x.frameCount(), 2);
        due.frame(x, 0, NeighborCache.NS_MULTI, 1, 0, 0, 0);
        due.frame(x, 1, NeighborCache.NS_MULTI, 65535, 0, 0, 0);
    }

    private static void queuesThree() {
        NeighborCache x = new NeighborCache(4, 10, 3, 3);
        x.send(9, false);
        Make.ticks(x, 4);
        due.entry(x, 9, NeighborCache.INCOMPLETE, 0, 1, 2, 2);
        int frames = x.frameCount();
        due.is("second send", x.send(9, false), 2);
        due.is("third send", x.send(9, false), 3);
        due.queue(x, 9, 1, 2, 3);
        due.is("dropped() by three", x.dropped(), 0);
        due.is("fourth send", x.send(9, false), 4);
        due.queue(x, 9, 2, 3, 4);
        due.is("dropped() by the fourth", x.dropped(), 1);
        due.is("fifth send", x.send(9, false), 5);
        due.queue(x, 9, 3, 4, 5);
        due.is("dropped() by the fifth", x.dropped(), 2);
        due.entry(x, 9, NeighborCache.INCOMPLETE, 0, 3, 2, 2);
        due.is("frames by queueing", x.frameCount(), frames);
    }

    private static void transmitsWhenResolved() {
        NeighborCache x = Make.plain();
        Make.reachable(x, 9, 90);
        x.tick();
        due.is("send on REACHABLE", x.send(9, false), 2);
        due.frame(x, 2, NeighborCache.DATA, 9, 90, 2, 9);
        due.entry(x, 9, NeighborCache.REACHABLE, 90, 0, 9, 0);

        x = Make.plain();
        Make.stale(x, 9, 90);
        due.entry(x, 9, NeighborCache.STALE, 90, 0, 0, 0);
        due.is("send on STALE", x.send(9, false), 2);
        due.frame(x, 2, NeighborCache.DATA, 9, 90, 2, 9);
        due.entry(x, 9, NeighborCache.DELAY, 90, 0, 5, 0);
        x.tick();
        due.is("send on DELAY", x.send(9, false), 3);
        due.frame(x, 3, NeighborCache.DATA, 9, 90, 3, 9);
        due.entry(x, 9, NeighborCache.DELAY, 90, 0, 4, 0);

        x = Make.plain();
        Make.probe(x, 9, 90);
        Make.ticks(x, 3);
        due.entry(x, 9, NeighborCache.PROBE, 90, 0, 1, 2);
        int frames = x.frameCount();
        due.is("send on PROBE", x.send(9, false), 2);
        due.frame(x, frames, NeighborCache.DATA, 9, 90, 2, 9);
        due.is("frames by send on PROBE", x.frameCount(), frames + 1);
        due.entry(x, 9, NeighborCache.PROBE, 90, 0, 1, 2);
    }

    private static void sendsOffLinkByTheRouter() {
        NeighborCache x = Make.plain();
        x.addRouter(7);
        x.addRouter(8);
        due.is("send(30, true)", x.send(30, true), 1);
        due.is("send(31, true)", x.send(31, true), 2);
        due.is("send(7, false)", x.send(7, false), 3);
        due.is("send(32, true)", x.send(32, true), 4);
        due.cache(x, 7);
        due.queue(x, 7, 2, 3, 4);
        due.frame(x, 0, NeighborCache.NS_MULTI, 7, 0, 0, 0);
        due.is("frameCount()", x.frameCount(), 1);
        x.receiveNA(7, 70, NeighborCache.FLAG_SOLICITED);
        due.frame(x, 1, NeighborCache.DATA, 31, 70, 2, 7);
        due.frame(x, 2, NeighborCache.DATA, 7, 70, 3, 7);
        due.frame(x, 3, NeighborCache.DATA, 32, 70, 4, 7);
        due.is("send(30, true) when resolved", x.send(30, true), 5);
        due.frame(x, 4, NeighborCache.DATA, 30, 70, 5, 7);
        due.is("entry of the destination", x.entryInfo(30, NeighborCache.INFO_STATE), NeighborCache.NONE);
    }

    private static void resetsMarksWhenAllAreMarked() {
        NeighborCache x = new NeighborCache(4, 10, 1, 1);
        x.addRouter(7);
        x.addRouter(8);
        x.send(30, true);
        x.tick();
        due.marks(x, 1, 0);
        due.is("send by the second router", x.send(30, true), 2);
        due.cache(x, 8);
        due.marks(x, 1, 0);
        x.tick();
        due.marks(x, 1, 1);
        due.is("send(9, false)", x.send(9, false), 3);
        due.marks(x, 1, 1);
        due.is("refused send", x.send(0, true), NeighborCache.REFUSED);
        due.marks(x, 1, 1);
        due.is("send with all marked", x.send(30, true), 4);
        due.marks(x, 0, 0);
        due.cache(x, 9, 7);
    }

    private static void evictsTheOldestResolved() {
        NeighborCache x = new NeighborCache(3, 10, 2, 3);
        x.addRouter(2);
        x.send(1, false);
        Make.reachable(x, 2, 20);
        Make.delay(x, 3, 30);
        due.cache(x, 1, 2, 3);
        due.is("send to a new hop", x.send(4, false), 4);
        due.cache(x, 1, 3, 4);
        due.queue(x, 1, 1);
        due.queue(x, 4, 4);
        due.entry(x, 3, NeighborCache.DELAY, 30, 0, 5, 0);
        due.entry(x, 4, NeighborCache.INCOMPLETE, 0, 1, 2, 1);
        due.is("dropped()", x.dropped(), 0);
        due.marks(x, 0);
        due.is("send to a known hop of a full cache", x.send(3, false), 5);
        due.cache(x, 1, 3, 4);
    }

    private static void dropsWhenCreationFails() {
        NeighborCache x = new NeighborCache(2, 10, 2, 3);
        x.send(1, false);
        x.send(2, false);
        due.is("send without room", x.send(3, false), 3);
        due.is("dropped()", x.dropped(), 1);
        due.is("frameCount()", x.frameCount(), 2);
        due.cache(x, 1, 2);
        due.queue(x, 1, 1);
        due.queue(x, 2, 2);
        due.is("next id", x.send(1, false), 4);
    }

    private static void dropsButKeepsTheMarkReset() {
        NeighborCache x = new NeighborCache(2, 10, 1, 1);
        x.addRouter(7);
        x.send(30, true);
        x.tick();
        due.marks(x, 1);
        x.send(1, false);
        x.send(2, false);
        int frames = x.frameCount();
        due.is("send without room, all marked", x.send(30, true), 4);
        due.marks(x, 0);
        due.is("dropped()", x.dropped(), 2);
        due.is("frameCount()", x.frameCount(), frames);
        due.cache(x, 1, 2);
    }

    private static void fillsEveryQueueOfTheLargestCache() {
        NeighborCache x = new NeighborCache(16, 10, 2, 3);
        for (int a = 1; a <= 16; a++) {
            for (int i = 0; i < 5; i++) {
                x.send(a, false);
            }
        }
        for (int a = 1; a <= 16; a++) {
            due.queue(x, a, a * 5 - 2, a * 5 - 1, a * 5);
        }
        due.is("dropped()", x.dropped(), 32);
        due.is("send without room", x.send(17, false), 81);
        due.is("dropped() without room", x.dropped(), 33);
        x.receiveNA(1, 10, NeighborCache.FLAG_SOLICITED);
        due.is("send with the oldest resolved", x.send(17, false), 82);
        for (int a = 2; a <= 16; a++) {
            due.is("entryAt(" + (a - 2) + ")", x.entryAt(a - 2), a);
            due.queue(x, a, a * 5 - 2, a * 5 - 1, a * 5);
        }
        due.is("entryAt(15)", x.entryAt(15), 17);
        due.queue(x, 17, 82);
    }

    private static void resetsTheMarksOfAFullList() {
        NeighborCache x = new NeighborCache(4, 10, 1, 1);
        for (int r = 1; r <= 4; r++) {
            x.addRouter(r);
            x.send(r, false);
        }
        x.tick();
        due.marks(x, 1, 1, 1, 1);
        due.is("send with all four marked", x.send(30, true), 5);
        due.marks(x, 0, 0, 0, 0);
        due.cache(x, 1);
    }

    private static void mayResolveAnOwnAddress() {
        NeighborCache x = Make.plain();
        x.addAddress(5);
        due.is("send to an own address", x.send(5, false), 1);
        due.entry(x, 5, NeighborCache.INCOMPLETE, 0, 1, 2, 1);
        due.own(x, 5, NeighborCache.TENTATIVE, 2, 1);
    }
}
