// The objects that other tests start from are what Stage says of them.
public final class StageTest {
    private static final Due due = new Due();

    public static void main(String[] args) {
        due.same("EMPTY", View.of(Stage.EMPTY.make()), View.EMPTY);
        checkBusy(Stage.BUSY.make());
        checkFull(Stage.FULL.make());
        checkMarked(Stage.MARKED.make());
        due.end();
    }

    private static void checkBusy(NeighborCache x) {
        due.cache(x, 15, 12, 13, 14, 11, 32);
        due.entry(x, 11, NeighborCache.INCOMPLETE, 0, 2, 1, 1);
        due.entry(x, 12, NeighborCache.REACHABLE, 120, 0, 18, 0);
        due.entry(x, 13, NeighborCache.STALE, 130, 0, 0, 0);
        due.entry(x, 14, NeighborCache.DELAY, 140, 0, 4, 0);
        due.entry(x, 15, NeighborCache.PROBE, 150, 0, 1, 2);
        due.queue(x, 32, 8, 9);
        due.own(x, 21, NeighborCache.TENTATIVE, 1, 1);
        due.own(x, 22, NeighborCache.PREFERRED, 0, 3);
        due.own(x, 23, NeighborCache.DUPLICATE, 0, 1);
        due.marks(x, 1, 0);
    }

    private static void checkFull(NeighborCache x) {
        due.cache(x, 34, 11, 12, 13);
        due.queue(x, 34, 67, 69, 71);
        due.queue(x, 11, 68, 70, 72);
        due.queue(x, 12, 73, 74);
        due.queue(x, 13, 75);
        due.own(x, 21, NeighborCache.TENTATIVE, 10, 1);
        due.own(x, 22, NeighborCache.PREFERRED, 0, 5);
        due.own(x, 23, NeighborCache.DUPLICATE, 0, 1);
        for (int a = 24; a < 29; a++) {
            due.own(x, a, NeighborCache.TENTATIVE, 10, 1);
        }
        due.marks(x, 1, 1, 1, 0);
        due.yes("over 64 frames", x.frameCount() > 64);
    }

    private static void checkMarked(NeighborCache x) {
        due.cache(x, 12, 13, 14);
        due.entry(x, 12, NeighborCache.REACHABLE, 120, 0, 10, 0);
        due.entry(x, 13, NeighborCache.STALE, 130, 0, 0, 0);
        due.entry(x, 14, NeighborCache.DELAY, 140, 0, 5, 0);
        due.own(x, 22, NeighborCache.PREFERRED, 0, 1);
        due.marks(x, 1, 1, 1, 1);
    }
}
