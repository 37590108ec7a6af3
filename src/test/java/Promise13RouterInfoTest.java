// Promise 13: routerInfo.
public final class Promise13RouterInfoTest {
    private static final Due due = new Due();

    public static void main(String[] args) {
        answersListOrder();
        refusesAnEmptyList();
        refusesBelow();
        refusesFromTheNumberOfRoutersOn();
        refusesUnknownFields();
        changesNothing();
        due.end();
    }

    private static void answersListOrder() {
        NeighborCache x = new NeighborCache(4, 10, 1, 1);
        x.addRouter(9);
        x.addRouter(7);
        x.addRouter(8);
        x.send(7, false);
        x.tick();
        due.is("routerInfo(0, ROUTER_ADDR)", x.routerInfo(0, NeighborCache.ROUTER_ADDR), 9);
        due.is("routerInfo(1, ROUTER_ADDR)", x.routerInfo(1, NeighborCache.ROUTER_ADDR), 7);
        due.is("routerInfo(2, ROUTER_ADDR)", x.routerInfo(2, NeighborCache.ROUTER_ADDR), 8);
        due.marks(x, 0, 1, 0);
    }

    private static void refusesAnEmptyList() {
        for (int i : new int[] {Integer.MIN_VALUE, -1, 0, 1, 3, 4, Integer.MAX_VALUE}) {
            for (int f = -1; f <= 2; f++) {
                int field = f;
                Unchanged.on(Stage.EMPTY, due, "routerInfo(" + i + ", " + f + ")", NeighborCache.REFUSED,
                    x -> x.routerInfo(i, field));
            }
        }
    }

    // "It answers REFUSED if i is out of range (negative"
    private static void refusesBelow() {
        for (int i : new int[] {-1, -2, -4, Integer.MIN_VALUE, Integer.MIN_VALUE + 1}) {
            for (int f = -1; f <= 2; f++) {
                int field = f;
                Unchanged.everywhere(due, "routerInfo(" + i + ", " + f + ")", NeighborCache.REFUSED,
                    x -> x.routerInfo(i, field));
            }
        }
    }

    // "or not less than the number of routers)", for every number of them
    private static void refusesFromTheNumberOfRoutersOn() {
        NeighborCache x = Make.plain();
        for (int routers = 1; routers <= 4; routers++) {
            x.addRouter(100 + routers);
            due.is("the last of " + routers, x.routerInfo(routers - 1, NeighborCache.ROUTER_ADDR), 100 + routers);
            due.is("its mark", x.routerInfo(routers - 1, NeighborCache.ROUTER_MARK), 0);
            for (int i : new int[] {routers, routers + 1, 4, 5, 64, Integer.MAX_VALUE}) {
                for (int f = -1; f <= 2; f++) {
                    due.is("routerInfo(" + i + ", " + f + ") of " + routers, x.routerInfo(i, f),
                        NeighborCache.REFUSED);
                }
            }
        }
        // a fifth router did not get in
        x.addRouter(105);
        due.is("routerInfo(4, ROUTER_ADDR)", x.routerInfo(4, NeighborCache.ROUTER_ADDR), NeighborCache.REFUSED);
    }

    // "or f is neither ROUTER_ADDR nor ROUTER_MARK"
    private static void refusesUnknownFields() {
        for (int f : new int[] {-1, 2, 3, 16, Integer.MIN_VALUE, Integer.MAX_VALUE}) {
            for (int i = -1; i <= 4; i++) {
                int router = i;
                Unchanged.everywhere(due, "routerInfo(" + i + ", " + f + ")", NeighborCache.REFUSED,
                    x -> x.routerInfo(router, f));
            }
        }
    }

    // "Nothing changes."
    private static void changesNothing() {
        Unchanged.everywhere(due, "routerInfo", true, x -> {
            for (int i = -1; i <= 5; i++) {
                for (int f = -1; f <= 2; f++) {
                    x.routerInfo(i, f);
                }
            }
            return true;
        });
    }
}
