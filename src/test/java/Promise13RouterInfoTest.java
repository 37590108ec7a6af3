// Promise 13: routerInfo.
public final class Promise13RouterInfoTest {
    private static final Due due = new Due();

    public static void main(String[] args) {
        answersListOrder();
        refusesOutOfRange();
        due.end();
    }

    private static void answersListOrder() {
        NeighborCache x = new NeighborCache(4, 10, 1, 1);
        x.addRouter(9);
        x.addRouter(7);
        x.addRouter(8);
        x.send(7, false);
        x.tick();
        due.is("routerInfo(0, ROUTER_ADDR)", x.routerInfo(0, NeighborCache.ROUTER_ADDR), 9);
        due.is("routerInfo(1, ROUTER_ADDR)", x.routerInfo(1, NeighborCache.ROUTER_ADDR), 7);
        due.is("routerInfo(2, ROUTER_ADDR)", x.routerInfo(2, NeighborCache.ROUTER_ADDR), 8);
        due.marks(x, 0, 1, 0);
    }

    private static void refusesOutOfRange() {
        NeighborCache x = Make.plain();
        due.is("routerInfo(0, 0) of an empty list", x.routerInfo(0, 0), NeighborCache.REFUSED);
        x.addRouter(7);
        x.addRouter(8);
        String before = View.of(x);
        for (int i : new int[] {-1, 2, 3, 4, Integer.MIN_VALUE, Integer.MAX_VALUE}) {
            due.is("routerInfo(" + i + ", 0)", x.routerInfo(i, 0), NeighborCache.REFUSED);
            due.is("routerInfo(" + i + ", 1)", x.routerInfo(i, 1), NeighborCache.REFUSED);
            due.is("routerInfo(" + i + ", 2)", x.routerInfo(i, 2), NeighborCache.REFUSED);
        }
        for (int f : new int[] {-1, 2, 3, Integer.MIN_VALUE, Integer.MAX_VALUE}) {
            due.is("routerInfo(0, " + f + ")", x.routerInfo(0, f), NeighborCache.REFUSED);
            due.is("routerInfo(1, " + f + ")", x.routerInfo(1, f), NeighborCache.REFUSED);
        }
        due.same("routerInfo", View.of(x), before);
        x.addRouter(9);
        x.addRouter(10);
        due.is("routerInfo(4, 0) of a full list", x.routerInfo(4, 0), NeighborCache.REFUSED);
    }
}
