// Promise 3: addRouter.
public final class Promise03AddRouterTest {
    private static final Due due = new Due();

    public static void main(String[] args) {
        appends();
        refusesInvalid();
        refusesKnown();
        refusesTheFifth();
        due.end();
    }

    private static void appends() {
        NeighborCache x = Make.plain();
        due.yes("addRouter(65535)", x.addRouter(65535));
        due.yes("addRouter(1)", x.addRouter(1));
        due.same("addRouter", View.of(x),
            " router 65535 mark 0\n router 1 mark 0\n default 65535 dropped 0 frames 0\n");
    }

    private static void refusesInvalid() {
        NeighborCache x = Make.plain();
        String before = View.of(x);
        for (int r : new int[] {0, -1, 65536, Integer.MIN_VALUE, Integer.MAX_VALUE}) {
            due.no("addRouter(" + r + ")", x.addRouter(r));
        }
        due.same("refused addRouter", View.of(x), before);
    }

    private static void refusesKnown() {
        NeighborCache x = new NeighborCache(4, 10, 1, 1);
        x.addRouter(7);
        x.addRouter(8);
        x.send(7, false);
        x.tick();
        due.marks(x, 1, 0);
        String before = View.of(x);
        due.no("addRouter of a marked one", x.addRouter(7));
        due.no("addRouter of an unmarked one", x.addRouter(8));
        due.same("refused addRouter", View.of(x), before);
    }

    private static void refusesTheFifth() {
        NeighborCache x = Make.plain();
        for (int r = 1; r <= 4; r++) {
            due.yes("addRouter(" + r + ")", x.addRouter(r));
        }
        String before = View.of(x);
        due.no("addRouter(5)", x.addRouter(5));
        due.same("the fifth addRouter", View.of(x), before);
    }
}
