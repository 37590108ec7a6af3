// Promise 2: addAddress.
public final class Promise02AddAddressTest {
    private static final Due due = new Due();

    public static void main(String[] args) {
        appendsTentative();
        refusesInvalid();
        refusesKnownInAnyState();
        refusesTheNinth();
        leavesTheRestAlone();
        due.end();
    }

    private static void appendsTentative() {
        NeighborCache x = new NeighborCache(4, 10, 7, 3);
        due.yes("addAddress(1)", x.addAddress(1));
        due.yes("addAddress(65535)", x.addAddress(65535));
        due.own(x, 1, NeighborCache.TENTATIVE, 7, 1);
        due.own(x, 65535, NeighborCache.TENTATIVE, 7, 1);
        due.is("frameCount()", x.frameCount(), 2);
        due.frame(x, 0, NeighborCache.NS_DAD, 1, 0, 0, 0);
        due.frame(x, 1, NeighborCache.NS_DAD, 65535, 0, 0, 0);
    }

    private static void refusesInvalid() {
        NeighborCache x = Make.plain();
        String before = View.of(x);
        for (int a : new int[] {0, -1, 65536, 65537, Integer.MIN_VALUE, Integer.MAX_VALUE}) {
            due.no("addAddress(" + a + ")", x.addAddress(a));
        }
        due.same("refused addAddress", View.of(x), before);
    }

    private static void refusesKnownInAnyState() {
        NeighborCache x = Make.plain();
        Make.preferred(x, 5);
        x.addAddress(6);
        x.receiveNA(6, 0, 0);
        x.addAddress(7);
        due.own(x, 5, NeighborCache.PREFERRED, 0, 3);
        due.own(x, 6, NeighborCache.DUPLICATE, 0, 1);
        String before = View.of(x);
        due.no("addAddress of a PREFERRED one", x.addAddress(5));
        due.no("addAddress of a DUPLICATE one", x.addAddress(6));
        due.no("addAddress of a TENTATIVE one", x.addAddress(7));
        due.same("refused addAddress", View.of(x), before);
    }

    private static void refusesTheNinth() {
        NeighborCache x = Make.plain();
        for (int a = 11; a <= 18; a++) {
            due.yes("addAddress(" + a + ")", x.addAddress(a));
        }
        String before = View.of(x);
        due.no("addAddress(19)", x.addAddress(19));
        due.same("the ninth addAddress", View.of(x), before);
        // a duplicate keeps its place in the table
        x.receiveNS(0, 11, 0);
        due.no("addAddress(19) beside a duplicate", x.addAddress(19));
    }

    private static void leavesTheRestAlone() {
        NeighborCache x = Make.plain();
        x.addRouter(7);
        x.send(7, false);
        due.yes("addAddress of a cached address", x.addAddress(7));
        due.entry(x, 7, NeighborCache.INCOMPLETE, 0, 1, 2, 1);
        due.cache(x, 7);
        due.marks(x, 0);
        due.is("dropped()", x.dropped(), 0);
        due.is("next packet id", x.send(8, false), 2);
    }
}
