// Promise 10: entryAt, and the term age order.
public final class Promise10EntryAtTest {
    private static final Due due = new Due();

    public static void main(String[] args) {
        answersAgeOrder();
        answersZeroOutOfRange();
        due.end();
    }

    private static void answersAgeOrder() {
        NeighborCache x = new NeighborCache(3, 10, 2, 3);
        x.send(30, false);
        x.send(10, false);
        x.send(20, false);
        due.cache(x, 30, 10, 20);
        // neither use nor a change of state makes an entry younger
        x.receiveNA(10, 1, NeighborCache.FLAG_SOLICITED);
        x.send(30, false);
        x.confirm(10);
        due.cache(x, 30, 10, 20);
        x.send(40, false);
        due.cache(x, 30, 20, 40);
        x.receiveNA(30, 1, NeighborCache.FLAG_SOLICITED);
        x.send(10, false);
        due.cache(x, 20, 40, 10);
    }

    private static void answersZeroOutOfRange() {
        NeighborCache x = new NeighborCache(16, 10, 2, 3);
        due.is("entryAt(0) of an empty cache", x.entryAt(0), 0);
        for (int a = 1; a <= 16; a++) {
            x.send(a, false);
        }
        String before = View.of(x);
        due.is("entryAt(15)", x.entryAt(15), 16);
        for (int i : new int[] {-1, 16, 17, Integer.MIN_VALUE, Integer.MAX_VALUE}) {
            due.is("entryAt(" + i + ")", x.entryAt(i), 0);
        }
        due.same("entryAt", View.of(x), before);
        // the places of deleted entries are out of range again
        Make.ticks(x, 6);
        due.cache(x);
    }
}
