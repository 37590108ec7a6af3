// Promise 16: dropped.
public final class Promise16DroppedTest {
    private static final Due due = new Due();

    public static void main(String[] args) {
        countsEveryCause();
        countsNoEviction();
        due.end();
    }

    private static void countsEveryCause() {
        NeighborCache x = new NeighborCache(2, 10, 2, 1);
        for (int i = 0; i < 5; i++) {
            x.send(8, false);
        }
        due.is("dropped() out of a full queue", x.dropped(), 2);
        x.send(9, false);
        x.send(7, false);
        due.is("dropped() as creation failed", x.dropped(), 3);
        String before = View.of(x);
        x.dropped();
        due.same("dropped()", View.of(x), before);
        Make.ticks(x, 2);
        due.is("dropped() by two failures", x.dropped(), 7);
    }

    private static void countsNoEviction() {
        NeighborCache x = new NeighborCache(2, 10, 1, 1);
        for (int a = 1; a <= 10; a++) {
            Make.reachable(x, a, 90);
        }
        due.cache(x, 9, 10);
        due.is("dropped() by evictions", x.dropped(), 0);
        // nor does the failure of an entry without a queue drop anything
        x.receiveNA(9, 91, NeighborCache.FLAG_OVERRIDE);
        x.send(9, false);
        Make.ticks(x, 6);
        due.cache(x, 10);
        due.is("dropped() by a failed probe", x.dropped(), 0);
    }
}
