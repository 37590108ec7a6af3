// Promise 7: confirm.
public final class Promise07ConfirmTest {
    private static final Due due = new Due();

    public static void main(String[] args) {
        refuses();
        entersReachable();
        leavesTheRestAlone();
        due.end();
    }

    private static void refuses() {
        NeighborCache x = Make.plain();
        x.addAddress(5);
        x.addRouter(7);
        x.send(9, false);
        x.tick();
        String before = View.of(x);
        for (int a : new int[] {0, -1, 65536, Integer.MIN_VALUE, Integer.MAX_VALUE, 1, 5, 7, 9}) {
            due.no("confirm(" + a + ")", x.confirm(a));
        }
        due.same("refused confirm", View.of(x), before);
    }

    private static void entersReachable() {
        NeighborCache x = Make.plain();
        Make.reachable(x, 9, 90);
        Make.ticks(x, 4);
        due.yes("confirm in REACHABLE", x.confirm(9));
        due.entry(x, 9, NeighborCache.REACHABLE, 90, 0, 10, 0);

        x = Make.plain();
        Make.stale(x, 9, 90);
        due.yes("confirm in STALE", x.confirm(9));
        due.entry(x, 9, NeighborCache.REACHABLE, 90, 0, 10, 0);

        x = Make.plain();
        Make.delay(x, 9, 90);
        due.yes("confirm in DELAY", x.confirm(9));
        due.entry(x, 9, NeighborCache.REACHABLE, 90, 0, 10, 0);

        x = Make.plain();
        Make.probe(x, 9, 90);
        Make.ticks(x, 3);
        due.entry(x, 9, NeighborCache.PROBE, 90, 0, 1, 2);
        due.yes("confirm in PROBE", x.confirm(9));
        due.entry(x, 9, NeighborCache.REACHABLE, 90, 0, 10, 0);
    }

    private static void leavesTheRestAlone() {
        NeighborCache x = new NeighborCache(4, 10, 1, 1);
        x.addRouter(7);
        x.addAddress(5);
        x.send(7, false);
        x.tick();
        due.marks(x, 1);
        Make.stale(x, 7, 70);
        x.send(8, false);
        int frames = x.frameCount();
        due.yes("confirm of a marked router", x.confirm(7));
        due.marks(x, 1);
        due.is("frames by confirm", x.frameCount(), frames);
        due.own(x, 5, NeighborCache.PREFERRED, 0, 1);
        due.cache(x, 7, 8);
        due.queue(x, 8, 3);
        due.is("dropped()", x.dropped(), 1);
        due.is("next packet id", x.send(8, false), 4);
    }
}
