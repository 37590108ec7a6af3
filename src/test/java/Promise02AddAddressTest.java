// Promise 2: addAddress, and the term own table.
public final class Promise02AddAddressTest {
    private static final Due due = new Due();

    public static void main(String[] args) {
        appendsTentative();
        acceptsTheEndsOfValid();
        refusesNotValid();
        refusesKnownInAnyState();
        acceptsTheEighth();
        refusesTheNinth();
        refusesTheNinthInAnyState();
        leavesTheRestAlone();
        due.end();
    }

    private static void appendsTentative() {
        NeighborCache x = new NeighborCache(4, 10, 7, 3);
        due.yes("addAddress(6)", x.addAddress(6));
        due.yes("addAddress(5)", x.addAddress(5));
        due.own(x, 6, NeighborCache.TENTATIVE, 7, 1);
        due.own(x, 5, NeighborCache.TENTATIVE, 7, 1);
        due.is("frameCount()", x.frameCount(), 2);
        due.frame(x, 0, NeighborCache.NS_DAD, 6, 0, 0, 0);
        due.frame(x, 1, NeighborCache.NS_DAD, 5, 0, 0, 0);
    }

    // "VALID means 1..65535"
    private static void acceptsTheEndsOfValid() {
        NeighborCache x = Make.plain();
        due.yes("addAddress(1)", x.addAddress(1));
        due.yes("addAddress(65535)", x.addAddress(65535));
        due.own(x, 1, NeighborCache.TENTATIVE, 2, 1);
        due.own(x, 65535, NeighborCache.TENTATIVE, 2, 1);
        due.frame(x, 1, NeighborCache.NS_DAD, 65535, 0, 0, 0);
    }

    // "a not valid [...] the call is refused: it answers false and nothing changes"
    private static void refusesNotValid() {
        for (int a : Stage.NOT_VALID) {
            Unchanged.everywhere(due, "addAddress(" + a + ")", false, x -> x.addAddress(a));
        }
    }

    // "a already in the own table (in any state)"
    private static void refusesKnownInAnyState() {
        for (int state = NeighborCache.TENTATIVE; state <= NeighborCache.DUPLICATE; state++) {
            int a = Stage.OWN[state];
            Unchanged.on(Stage.BUSY, due, "addAddress of state " + state, false, x -> x.addAddress(a));
            Unchanged.on(Stage.FULL, due, "addAddress of state " + state, false, x -> x.addAddress(a));
        }
    }

    // "at most 8 own addresses in order of addition"
    private static void acceptsTheEighth() {
        NeighborCache x = Make.plain();
        for (int a = 18; a >= 11; a--) {
            due.yes("addAddress(" + a + ")", x.addAddress(a));
        }
        due.is("frameCount()", x.frameCount(), 8);
        Make.ticks(x, 2);
        for (int i = 0; i < 8; i++) {
            due.own(x, 18 - i, NeighborCache.TENTATIVE, 2, 2);
            due.frame(x, 8 + i, NeighborCache.NS_DAD, 18 - i, 0, 0, 0);
        }
    }

    // "the own table holds 8"
    private static void refusesTheNinth() {
        for (int a : new int[] {1, Stage.STRANGER, Stage.ENTRY[1], Stage.FIRST_ROUTER, 65535}) {
            Unchanged.on(Stage.FULL, due, "addAddress(" + a + ")", false, x -> x.addAddress(a));
        }
    }

    // whatever state they are in, 8 are 8
    private static void refusesTheNinthInAnyState() {
        for (int state = NeighborCache.TENTATIVE; state <= NeighborCache.DUPLICATE; state++) {
            int all = state;
            Unchanged.by(due, "addAddress(19) beside eight in state " + state, false,
                () -> eightIn(all), x -> x.addAddress(19));
        }
    }

    private static NeighborCache eightIn(int state) {
        NeighborCache x = Make.plain();
        for (int a = 11; a <= 18; a++) {
            x.addAddress(a);
            if (state == NeighborCache.DUPLICATE) {
                x.receiveNA(a, 0, 0);
            }
        }
        Make.ticks(x, state == NeighborCache.PREFERRED ? 6 : 1);
        due.is("state of the eighth", x.addressInfo(18, NeighborCache.ADDR_STATE), state);
        return x;
    }

    // "The cache, router list, packet ids and dropped are not changed."
    private static void leavesTheRestAlone() {
        for (Stage stage : new Stage[] {Stage.BUSY, Stage.MARKED}) {
            for (int a : new int[] {Stage.STRANGER, Stage.ENTRY[NeighborCache.STALE], Stage.FIRST_ROUTER}) {
                NeighborCache x = stage.make();
                NeighborCache twin = stage.make();
                due.yes("addAddress(" + a + ")", x.addAddress(a));
                due.same("the cache", View.cache(x), View.cache(twin));
                due.same("the router list", View.routers(x), View.routers(twin));
                due.is("dropped()", x.dropped(), twin.dropped());
                due.is("frames by addAddress", x.frameCount(), twin.frameCount() + 1);
                due.is("next packet id", x.send(51, false), twin.send(51, false));
            }
        }
    }
}
