// Promise 9: entryInfo.
public final class Promise09EntryInfoTest {
    private static final Due due = new Due();

    public static void main(String[] args) {
        answersEveryState();
        refusesUnknownFields();
        answersNoneWithoutEntry();
        changesNothing();
        due.end();
    }

    private static void answersEveryState() {
        NeighborCache x = new NeighborCache(5, 20, 2, 3);
        Make.probe(x, 5, 50);
        x.tick();
        Make.reachable(x, 2, 20);
        Make.stale(x, 3, 30);
        Make.delay(x, 4, 40);
        x.send(1, false);
        x.send(1, false);
        due.entry(x, 1, NeighborCache.INCOMPLETE, 0, 2, 2, 1);
        due.entry(x, 2, NeighborCache.REACHABLE, 20, 0, 20, 0);
        due.entry(x, 3, NeighborCache.STALE, 30, 0, 0, 0);
        due.entry(x, 4, NeighborCache.DELAY, 40, 0, 5, 0);
        due.entry(x, 5, NeighborCache.PROBE, 50, 0, 1, 1);
    }

    private static void refusesUnknownFields() {
        NeighborCache x = Make.plain();
        x.send(9, false);
        for (int f : new int[] {-1, 5, 6, Integer.MIN_VALUE, Integer.MAX_VALUE}) {
            for (int a : new int[] {9, 8, 0, -1, 65536}) {
                due.is("entryInfo(" + a + ", " + f + ")", x.entryInfo(a, f), NeighborCache.REFUSED);
            }
        }
    }

    private static void answersNoneWithoutEntry() {
        NeighborCache x = Make.plain();
        x.addAddress(5);
        x.addRouter(7);
        x.send(9, false);
        for (int a : new int[] {8, 5, 7, 0, -1, 65536, Integer.MIN_VALUE, Integer.MAX_VALUE}) {
            due.entry(x, a, NeighborCache.NONE, 0, 0, 0, 0);
        }
    }

    private static void changesNothing() {
        NeighborCache x = Make.plain();
        x.send(9, false);
        String before = View.of(x);
        x.entryInfo(8, 0);
        x.entryInfo(9, 9);
        due.same("entryInfo", View.of(x), before);
    }
}
