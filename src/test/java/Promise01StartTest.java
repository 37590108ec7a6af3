// Promise 1: the constructor's clamps and the empty start.
public final class Promise01StartTest {
    private static final Due due = new Due();

    public static void main(String[] args) {
        startsEmpty();
        clampsCacheSize();
        clampsReachableTime();
        clampsRetransTime();
        clampsMaxSolicit();
        objectsShareNothing();
        due.end();
    }

    private static void startsEmpty() {
        NeighborCache x = new NeighborCache(4, 10, 2, 3);
        due.same("new", View.of(x), " default 0 dropped 0 frames 0\n");
        x.tick();
        due.same("tick on a new object", View.of(x), " default 0 dropped 0 frames 0\n");
        due.is("first send", x.send(9, false), 1);
    }

    private static void clampsCacheSize() {
        int[][] givenAndDue = {{Integer.MIN_VALUE, 2}, {-1, 2}, {0, 2}, {1, 2}, {2, 2}, {3, 3}, {9, 9},
            {15, 15}, {16, 16}, {17, 16}, {Integer.MAX_VALUE, 16}};
        for (int[] pair : givenAndDue) {
            NeighborCache x = new NeighborCache(pair[0], 10, 2, 3);
            for (int a = 1; a <= 20; a++) {
                x.send(a, false);
            }
            due.is("cacheSize " + pair[0] + ": last entry", x.entryAt(pair[1] - 1), pair[1]);
            due.is("cacheSize " + pair[0] + ": entries end", x.entryAt(pair[1]), 0);
            due.is("cacheSize " + pair[0] + ": dropped", x.dropped(), 20 - pair[1]);
        }
    }

    private static void clampsReachableTime() {
        int[][] givenAndDue = {{Integer.MIN_VALUE, 2}, {0, 2}, {1, 2}, {2, 2}, {3, 3}, {30, 30}, {59, 59},
            {60, 60}, {61, 60}, {Integer.MAX_VALUE, 60}};
        for (int[] pair : givenAndDue) {
            NeighborCache x = new NeighborCache(4, pair[0], 2, 3);
            Make.reachable(x, 9, 90);
            due.entry(x, 9, NeighborCache.REACHABLE, 90, 0, pair[1], 0);
        }
    }

    private static void clampsRetransTime() {
        int[][] givenAndDue = {{Integer.MIN_VALUE, 1}, {-7, 1}, {0, 1}, {1, 1}, {2, 2}, {9, 9}, {10, 10},
            {11, 10}, {Integer.MAX_VALUE, 10}};
        for (int[] pair : givenAndDue) {
            NeighborCache x = new NeighborCache(4, 10, pair[0], 3);
            x.send(9, false);
            x.addAddress(5);
            due.entry(x, 9, NeighborCache.INCOMPLETE, 0, 1, pair[1], 1);
            due.own(x, 5, NeighborCache.TENTATIVE, pair[1], 1);
        }
    }

    private static void clampsMaxSolicit() {
        int[][] givenAndDue = {{Integer.MIN_VALUE, 1}, {0, 1}, {1, 1}, {2, 2}, {4, 4}, {5, 5}, {6, 5},
            {Integer.MAX_VALUE, 5}};
        for (int[] pair : givenAndDue) {
            NeighborCache x = new NeighborCache(4, 10, 1, pair[0]);
            x.send(9, false);
            Make.ticks(x, 10);
            due.is("maxSolicit " + pair[0] + ": solicitations", x.frameCount(), pair[1]);
            due.is("maxSolicit " + pair[0] + ": dropped", x.dropped(), 1);
        }
    }

    private static void objectsShareNothing() {
        NeighborCache x = Make.plain();
        NeighborCache y = Make.plain();
        x.addAddress(5);
        x.addRouter(7);
        x.send(9, false);
        due.same("calls on another object", View.of(y), " default 0 dropped 0 frames 0\n");
        due.is("first send of the other object", y.send(9, false), 1);
    }
}
