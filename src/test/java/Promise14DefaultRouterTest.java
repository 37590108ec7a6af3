// Promise 14: defaultRouter, and the term selected router.
public final class Promise14DefaultRouterTest {
    private static final Due due = new Due();

    public static void main(String[] args) {
        NeighborCache x = new NeighborCache(4, 10, 1, 1);
        due.is("defaultRouter() of an empty list", x.defaultRouter(), 0);
        x.addRouter(9);
        due.is("defaultRouter() of one", x.defaultRouter(), 9);
        x.addRouter(7);
        x.addRouter(8);
        due.is("defaultRouter() of three", x.defaultRouter(), 9);
        failHop(x, 7);
        due.is("defaultRouter() with the second marked", x.defaultRouter(), 9);
        failHop(x, 9);
        due.is("defaultRouter() with two marked", x.defaultRouter(), 8);
        failHop(x, 8);
        due.is("defaultRouter() with all marked", x.defaultRouter(), 9);
        due.marks(x, 1, 1, 1);
        x.addRouter(6);
        due.is("defaultRouter() with a new one", x.defaultRouter(), 6);
        String before = View.of(x);
        x.defaultRouter();
        due.same("defaultRouter()", View.of(x), before);
        due.end();
    }

    private static void failHop(NeighborCache x, int hop) {
        x.send(hop, false);
        x.tick();
    }
}
