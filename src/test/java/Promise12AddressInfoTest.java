// Promise 12: addressInfo.
public final class Promise12AddressInfoTest {
    private static final Due due = new Due();

    public static void main(String[] args) {
        answersEveryState();
        refusesUnknownFields();
        answersNoneForForeign();
        due.end();
    }

    private static void answersEveryState() {
        NeighborCache x = Make.plain();
        Make.preferred(x, 5);
        x.addAddress(6);
        Make.ticks(x, 2);
        x.receiveNS(0, 6, 0);
        x.addAddress(7);
        x.tick();
        String before = View.of(x);
        due.own(x, 5, NeighborCache.PREFERRED, 0, 3);
        due.own(x, 6, NeighborCache.DUPLICATE, 0, 2);
        due.own(x, 7, NeighborCache.TENTATIVE, 1, 1);
        due.same("addressInfo", View.of(x), before);
    }

    private static void refusesUnknownFields() {
        NeighborCache x = Make.plain();
        x.addAddress(5);
        for (int f : new int[] {-1, 3, 4, Integer.MIN_VALUE, Integer.MAX_VALUE}) {
            for (int a : new int[] {5, 6, 0, -1, 65536}) {
                due.is("addressInfo(" + a + ", " + f + ")", x.addressInfo(a, f), NeighborCache.REFUSED);
            }
        }
    }

    private static void answersNoneForForeign() {
        NeighborCache x = Make.plain();
        due.own(x, 0, NeighborCache.NONE, 0, 0);
        x.addAddress(5);
        x.addRouter(7);
        x.send(9, false);
        for (int a : new int[] {6, 7, 9, 0, -1, 65536, Integer.MIN_VALUE, Integer.MAX_VALUE}) {
            due.own(x, a, NeighborCache.NONE, 0, 0);
        }
    }
}
