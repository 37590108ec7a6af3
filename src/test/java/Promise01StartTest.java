// Promise 1: the constructor's clamps and the empty start.
public final class Promise01StartTest {
    private static final int LEAST = Integer.MIN_VALUE;
    private static final int GREATEST = Integer.MAX_VALUE;
    private static final Due due = new Due();

    public static void main(String[] args) {
        startsEmpty();
        usesNoPacketId();
        clampsCacheSize();
        clampsReachableTime();
        clampsRetransTime();
        clampsMaxSolicit();
        clampsEachArgumentAlone();
        objectsShareNothing();
        due.end();
    }

    // "The object starts with an empty cache, empty own table, empty router list and empty frame
    // log; dropped() is 0, frameCount() is 0"
    private static void startsEmpty() {
        int[][] given = {{4, 10, 2, 3}, {2, 2, 1, 1}, {16, 60, 10, 5}, {0, 0, 0, 0}, {-1, -1, -1, -1},
            {LEAST, LEAST, LEAST, LEAST}, {GREATEST, GREATEST, GREATEST, GREATEST}};
        for (int[] g : given) {
            NeighborCache x = new NeighborCache(g[0], g[1], g[2], g[3]);
            due.same("new", View.of(x), View.EMPTY);
            due.is("entryAt(0)", x.entryAt(0), 0);
            due.is("routerInfo(0, ROUTER_ADDR)", x.routerInfo(0, 0), NeighborCache.REFUSED);
            due.is("defaultRouter()", x.defaultRouter(), 0);
            due.is("frameField(0, FIELD_KIND)", x.frameField(0, 0), NeighborCache.REFUSED);
            due.is("dropped()", x.dropped(), 0);
            due.is("frameCount()", x.frameCount(), 0);
            Make.ticks(x, 70);
            due.same("ticks on a new object", View.of(x), View.EMPTY);
        }
    }

    // "no packet ids are used (the first accepted send answers 1)"
    private static void usesNoPacketId() {
        NeighborCache x = Make.plain();
        due.is("send(0, false)", x.send(0, false), NeighborCache.REFUSED);
        due.is("send(9, true) without a router", x.send(9, true), NeighborCache.REFUSED);
        due.is("first accepted send", x.send(9, false), 1);
    }

    // "a value below the least becomes the least, above the greatest becomes the greatest.
    // Ranges: cacheSize 2..16"
    private static void clampsCacheSize() {
        int[][] givenAndDue = {{LEAST, 2}, {-1, 2}, {0, 2}, {1, 2}, {2, 2}, {3, 3}, {9, 9}, {15, 15}, {16, 16},
            {17, 16}, {GREATEST, 16}};
        for (int[] pair : givenAndDue) {
            NeighborCache x = new NeighborCache(pair[0], 10, 2, 3);
            String size = "cacheSize " + pair[0] + ": ";
            for (int a = 1; a <= 20; a++) {
                x.send(a, false);
            }
            due.is(size + "last entry", x.entryAt(pair[1] - 1), pair[1]);
            due.is(size + "entries end", x.entryAt(pair[1]), 0);
            due.is(size + "dropped", x.dropped(), 20 - pair[1]);
        }
    }

    // "reachableTime 2..60"
    private static void clampsReachableTime() {
        int[][] givenAndDue = {{LEAST, 2}, {-1, 2}, {0, 2}, {1, 2}, {2, 2}, {3, 3}, {30, 30}, {59, 59}, {60, 60},
            {61, 60}, {GREATEST, 60}};
        for (int[] pair : givenAndDue) {
            NeighborCache x = new NeighborCache(4, pair[0], 2, 3);
            Make.reachable(x, 9, 90);
            due.entry(x, 9, NeighborCache.REACHABLE, 90, 0, pair[1], 0);
            Make.ticks(x, pair[1] - 1);
            due.entry(x, 9, NeighborCache.REACHABLE, 90, 0, 1, 0);
            x.tick();
            due.entry(x, 9, NeighborCache.STALE, 90, 0, 0, 0);
            x.confirm(9);
            due.entry(x, 9, NeighborCache.REACHABLE, 90, 0, pair[1], 0);
        }
    }

    // "retransTime 1..10"
    private static void clampsRetransTime() {
        int[][] givenAndDue = {{LEAST, 1}, {-7, 1}, {0, 1}, {1, 1}, {2, 2}, {9, 9}, {10, 10}, {11, 10},
            {GREATEST, 10}};
        for (int[] pair : givenAndDue) {
            NeighborCache x = new NeighborCache(4, 10, pair[0], 3);
            x.send(9, false);
            x.addAddress(5);
            due.entry(x, 9, NeighborCache.INCOMPLETE, 0, 1, pair[1], 1);
            due.own(x, 5, NeighborCache.TENTATIVE, pair[1], 1);
            Make.ticks(x, pair[1]);
            due.entry(x, 9, NeighborCache.INCOMPLETE, 0, 1, pair[1], 2);
            due.own(x, 5, NeighborCache.TENTATIVE, pair[1], 2);
            x = new NeighborCache(4, 10, pair[0], 3);
            Make.probe(x, 9, 90);
            due.entry(x, 9, NeighborCache.PROBE, 90, 0, pair[1], 1);
            Make.ticks(x, pair[1]);
            due.entry(x, 9, NeighborCache.PROBE, 90, 0, pair[1], 2);
        }
    }

    // "maxSolicit 1..5"
    private static void clampsMaxSolicit() {
        int[][] givenAndDue = {{LEAST, 1}, {-1, 1}, {0, 1}, {1, 1}, {2, 2}, {4, 4}, {5, 5}, {6, 5}, {GREATEST, 5}};
        for (int[] pair : givenAndDue) {
            String most = "maxSolicit " + pair[0] + ": ";
            NeighborCache x = new NeighborCache(4, 10, 1, pair[0]);
            x.send(9, false);
            Make.ticks(x, 10);
            due.is(most + "solicitations", x.frameCount(), pair[1]);
            due.is(most + "dropped", x.dropped(), 1);
            x = new NeighborCache(4, 10, 1, pair[0]);
            x.addAddress(5);
            Make.ticks(x, 10);
            due.own(x, 5, NeighborCache.PREFERRED, 0, pair[1]);
            x = new NeighborCache(4, 10, 1, pair[0]);
            Make.probe(x, 9, 90);
            Make.ticks(x, 10);
            due.cache(x);
            // the first solicitation and the packet come before the probes
            due.is(most + "probes", x.frameCount(), 2 + pair[1]);
        }
    }

    // "clamps each argument": one that is out of range moves no other
    private static void clampsEachArgumentAlone() {
        for (int bad : new int[] {LEAST, GREATEST}) {
            boolean low = bad == LEAST;
            checkSettings(new NeighborCache(bad, 7, 3, 2), low ? 2 : 16, 7, 3, 2);
            checkSettings(new NeighborCache(5, bad, 3, 2), 5, low ? 2 : 60, 3, 2);
            checkSettings(new NeighborCache(5, 7, bad, 2), 5, 7, low ? 1 : 10, 2);
            checkSettings(new NeighborCache(5, 7, 3, bad), 5, 7, 3, low ? 1 : 5);
        }
        checkSettings(new NeighborCache(LEAST, LEAST, LEAST, LEAST), 2, 2, 1, 1);
        checkSettings(new NeighborCache(GREATEST, GREATEST, GREATEST, GREATEST), 16, 60, 10, 5);
    }

    private static void checkSettings(NeighborCache x, int cacheSize, int reachableTime, int retransTime,
            int maxSolicit) {
        for (int a = 1; a <= 17; a++) {
            x.send(a, false);
        }
        due.is("last entry", x.entryAt(cacheSize - 1), cacheSize);
        due.is("entries end", x.entryAt(cacheSize), 0);
        x.receiveNA(1, 10, NeighborCache.FLAG_SOLICITED);
        due.entry(x, 1, NeighborCache.REACHABLE, 10, 0, reachableTime, 0);
        due.entry(x, 2, NeighborCache.INCOMPLETE, 0, 1, retransTime, 1);
        Make.ticks(x, retransTime * maxSolicit - 1);
        due.entry(x, 2, NeighborCache.INCOMPLETE, 0, 1, 1, maxSolicit);
        x.tick();
        due.entry(x, 2, NeighborCache.NONE, 0, 0, 0, 0);
    }

    private static void objectsShareNothing() {
        NeighborCache x = Make.plain();
        NeighborCache y = Make.plain();
        x.addAddress(5);
        x.addRouter(7);
        x.send(9, false);
        due.same("calls on another object", View.of(y), View.EMPTY);
        due.is("first send of the other object", y.send(9, false), 1);
    }
}
