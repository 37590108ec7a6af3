// Promise 7: confirm.
public final class Promise07ConfirmTest {
    private static final Due due = new Due();

    public static void main(String[] args) {
        refusesNotValid();
        refusesWithoutEntry();
        refusesIncomplete();
        acceptsTheEndsOfValid();
        entersReachable();
        leavesTheRestAlone();
        due.end();
    }

    // "It is refused (answers false, nothing changes) if a is not valid"
    private static void refusesNotValid() {
        for (int a : Stage.NOT_VALID) {
            Unchanged.everywhere(due, "confirm(" + a + ")", false, x -> x.confirm(a));
        }
    }

    // "there is no entry for a": a stranger, an own address, a router, an entry that has gone
    private static void refusesWithoutEntry() {
        for (int a : new int[] {1, 10, 21, 22, 23, 31, 41, Stage.STRANGER, 65535}) {
            Unchanged.everywhere(due, "confirm(" + a + ")", false, x -> x.confirm(a));
        }
    }

    // "or the entry is INCOMPLETE", its queue full or not
    private static void refusesIncomplete() {
        for (int a : new int[] {11, 32}) {
            Unchanged.on(Stage.BUSY, due, "confirm(" + a + ")", false, x -> x.confirm(a));
        }
        for (int a : new int[] {34, 11, 12, 13}) {
            Unchanged.on(Stage.FULL, due, "confirm(" + a + ")", false, x -> x.confirm(a));
        }
    }

    private static void acceptsTheEndsOfValid() {
        for (int a : new int[] {1, 65535}) {
            NeighborCache x = Make.plain();
            Make.stale(x, a, 90);
            due.yes("confirm(" + a + ")", x.confirm(a));
            due.entry(x, a, NeighborCache.REACHABLE, 90, 0, 10, 0);
        }
    }

    // "the entry enters REACHABLE (timer reachableTime, probes 0; link unchanged)", also with its timer at 1
    private static void entersReachable() {
        int[] ticks = {0, 0, 9, 0, 4, 5};
        for (int state = NeighborCache.REACHABLE; state <= NeighborCache.PROBE; state++) {
            NeighborCache x = Make.plain();
            Make.inState(x, state, 9, 90);
            Make.ticks(x, ticks[state]);
            due.entry(x, 9, state, 90, 0, state == NeighborCache.STALE ? 0 : 1,
                state == NeighborCache.PROBE ? 3 : 0);
            due.yes("confirm in " + state, x.confirm(9));
            due.entry(x, 9, NeighborCache.REACHABLE, 90, 0, 10, 0);
        }
    }

    // "No frame is emitted; the router list (including marks), own table, packet ids and dropped are not changed."
    private static void leavesTheRestAlone() {
        for (Stage stage : new Stage[] {Stage.BUSY, Stage.MARKED}) {
            for (int state = NeighborCache.REACHABLE; state <= NeighborCache.DELAY; state++) {
                NeighborCache x = stage.make();
                NeighborCache twin = stage.make();
                due.yes("confirm in " + state, x.confirm(Stage.ENTRY[state]));
                due.same("confirm in " + state, View.frames(x) + View.routers(x) + View.own(x),
                    View.frames(twin) + View.routers(twin) + View.own(twin));
                due.is("dropped()", x.dropped(), twin.dropped());
                due.is("next packet id", x.send(51, false), twin.send(51, false));
            }
        }
        NeighborCache x = new NeighborCache(4, 10, 1, 1);
        x.addRouter(7);
        x.send(7, false);
        x.tick();
        Make.stale(x, 7, 70);
        due.yes("confirm of a marked router", x.confirm(7));
        due.marks(x, 1);
    }
}
