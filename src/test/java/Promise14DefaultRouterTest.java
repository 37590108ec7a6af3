// Promise 14: defaultRouter, and the term selected router.
public final class Promise14DefaultRouterTest {
    private static final Due due = new Due();

    public static void main(String[] args) {
        answersZeroForAnEmptyList();
        answersTheFirstUnmarked();
        answersTheFirstWhenAllAreMarked();
        answersTheEndsOfValid();
        changesNothing();
        due.end();
    }

    // "0 for an empty list"
    private static void answersZeroForAnEmptyList() {
        Unchanged.on(Stage.EMPTY, due, "defaultRouter()", 0, x -> x.defaultRouter());
        NeighborCache x = Make.plain();
        x.addAddress(5);
        x.send(9, false);
        x.addRouter(0);
        due.is("defaultRouter() of an empty list", x.defaultRouter(), 0);
    }

    // Routers 9, 8, 7, ...: marks has bit i for the one at place i.
    private static NeighborCache withMarks(int routers, int marks) {
        NeighborCache x = new NeighborCache(4, 10, 1, 1);
        for (int i = 0; i < routers; i++) {
            x.addRouter(9 - i);
            if ((marks >> i & 1) != 0) {
                x.send(9 - i, false);
            }
        }
        x.tick();
        return x;
    }

    // "else the first router with mark 0", in every list and with every marks but all
    private static void answersTheFirstUnmarked() {
        for (int routers = 1; routers <= 4; routers++) {
            for (int marks = 0; marks < (1 << routers) - 1; marks++) {
                int first = Integer.numberOfTrailingZeros(~marks);
                due.is("defaultRouter() of " + routers + ", marks " + Integer.toBinaryString(marks),
                    withMarks(routers, marks).defaultRouter(), 9 - first);
            }
        }
    }

    // "else the first router"; "Marks are unchanged"
    private static void answersTheFirstWhenAllAreMarked() {
        for (int routers = 1; routers <= 4; routers++) {
            NeighborCache x = withMarks(routers, (1 << routers) - 1);
            due.is("defaultRouter() of " + routers + ", all marked", x.defaultRouter(), 9);
            for (int i = 0; i < routers; i++) {
                due.is("mark of router " + i, x.routerInfo(i, NeighborCache.ROUTER_MARK), 1);
            }
        }
        NeighborCache x = withMarks(3, 7);
        x.addRouter(4);
        due.is("defaultRouter() with a new one", x.defaultRouter(), 4);
    }

    private static void answersTheEndsOfValid() {
        for (int r : new int[] {1, 65535}) {
            NeighborCache x = Make.plain();
            x.addRouter(r);
            due.is("defaultRouter()", x.defaultRouter(), r);
        }
    }

    // "nothing changes"
    private static void changesNothing() {
        Unchanged.on(Stage.BUSY, due, "defaultRouter()", 32, x -> x.defaultRouter());
        Unchanged.on(Stage.FULL, due, "defaultRouter()", 34, x -> x.defaultRouter());
        Unchanged.on(Stage.MARKED, due, "defaultRouter()", 31, x -> x.defaultRouter());
    }
}
