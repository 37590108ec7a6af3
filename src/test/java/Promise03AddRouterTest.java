// Promise 3: addRouter, and the term router list.
public final class Promise03AddRouterTest {
    private static final Due due = new Due();

    public static void main(String[] args) {
        appends();
        refusesNotValid();
        refusesKnown();
        acceptsTheFourth();
        refusesTheFifth();
        leavesTheRestAlone();
        due.end();
    }

    // "VALID means 1..65535", and in order of addition
    private static void appends() {
        NeighborCache x = Make.plain();
        due.yes("addRouter(65535)", x.addRouter(65535));
        due.yes("addRouter(1)", x.addRouter(1));
        due.same("addRouter", View.of(x),
            " router 65535 mark 0\n router 1 mark 0\n default 65535\n dropped 0\n frames 0\n");
    }

    // "r not valid [...] If any holds: false, nothing changes."
    private static void refusesNotValid() {
        for (int r : Stage.NOT_VALID) {
            Unchanged.everywhere(due, "addRouter(" + r + ")", false, x -> x.addRouter(r));
        }
    }

    // "r already in the router list", marked or not, the list full or not
    private static void refusesKnown() {
        for (int r : new int[] {Stage.FIRST_ROUTER, Stage.FIRST_ROUTER + 1}) {
            Unchanged.on(Stage.BUSY, due, "addRouter(" + r + ")", false, x -> x.addRouter(r));
        }
        for (int r = Stage.FIRST_ROUTER; r < Stage.FIRST_ROUTER + 4; r++) {
            int known = r;
            Unchanged.on(Stage.FULL, due, "addRouter(" + r + ")", false, x -> x.addRouter(known));
            Unchanged.on(Stage.MARKED, due, "addRouter(" + r + ")", false, x -> x.addRouter(known));
        }
    }

    // "at most 4 router addresses in order of addition"
    private static void acceptsTheFourth() {
        NeighborCache x = Make.plain();
        for (int r = 4; r >= 1; r--) {
            due.yes("addRouter(" + r + ")", x.addRouter(r));
        }
        due.same("four routers", View.routers(x),
            " router 4 mark 0\n router 3 mark 0\n router 2 mark 0\n router 1 mark 0\n default 4\n");
    }

    // "the list holds 4", whatever their marks
    private static void refusesTheFifth() {
        for (int r : new int[] {1, Stage.STRANGER, Stage.ENTRY[1], Stage.OWN[1], 65535}) {
            Unchanged.on(Stage.FULL, due, "addRouter(" + r + ")", false, x -> x.addRouter(r));
            Unchanged.on(Stage.MARKED, due, "addRouter(" + r + ")", false, x -> x.addRouter(r));
        }
        Unchanged.by(due, "addRouter(5)", false, Promise03AddRouterTest::fourUnmarked, x -> x.addRouter(5));
    }

    private static NeighborCache fourUnmarked() {
        NeighborCache x = Make.plain();
        for (int r = 1; r <= 4; r++) {
            x.addRouter(r);
        }
        return x;
    }

    // "No cache entry is made and no frame is emitted."
    private static void leavesTheRestAlone() {
        for (int r : new int[] {Stage.STRANGER, Stage.ENTRY[NeighborCache.INCOMPLETE], Stage.OWN[1]}) {
            NeighborCache x = Stage.BUSY.make();
            NeighborCache twin = Stage.BUSY.make();
            due.yes("addRouter(" + r + ")", x.addRouter(r));
            due.marks(x, 1, 0, 0);
            due.same("the cache", View.cache(x), View.cache(twin));
            due.same("the own table", View.own(x), View.own(twin));
            due.same("the frames", View.frames(x), View.frames(twin));
            due.is("dropped()", x.dropped(), twin.dropped());
            due.is("next packet id", x.send(51, false), twin.send(51, false));
        }
    }
}
