// Promise 9: entryInfo.
public final class Promise09EntryInfoTest {
    private static final int[] NO_FIELDS = {-1, 5, 6, 16, Integer.MIN_VALUE, Integer.MAX_VALUE};
    private static final Due due = new Due();

    public static void main(String[] args) {
        answersEveryState();
        refusesUnknownFields();
        refusesUnknownFieldsWithoutEntry();
        answersNoneWithoutEntry();
        answersNoneNotValid();
        answersNoneForEntriesThatAreGone();
        answersTheEndsOfValid();
        changesNothing();
        due.end();
    }

    // "TIMER is 0 in STALE; PROBES is 0 in REACHABLE, STALE and DELAY."; "link, 0 while INCOMPLETE"
    private static void answersEveryState() {
        NeighborCache x = new NeighborCache(5, 20, 2, 3);
        Make.probe(x, 5, 50);
        x.tick();
        Make.reachable(x, 2, 20);
        Make.stale(x, 3, 30);
        Make.delay(x, 4, 40);
        x.send(1, false);
        x.send(1, false);
        due.entry(x, 1, NeighborCache.INCOMPLETE, 0, 2, 2, 1);
        due.entry(x, 2, NeighborCache.REACHABLE, 20, 0, 20, 0);
        due.entry(x, 3, NeighborCache.STALE, 30, 0, 0, 0);
        due.entry(x, 4, NeighborCache.DELAY, 40, 0, 5, 0);
        due.entry(x, 5, NeighborCache.PROBE, 50, 0, 1, 1);
        // back from PROBE, the probes are forgotten
        x.confirm(5);
        due.entry(x, 5, NeighborCache.REACHABLE, 50, 0, 20, 0);
    }

    // "If f is not an INFO_ constant the answer is REFUSED"
    private static void refusesUnknownFields() {
        for (int f : NO_FIELDS) {
            for (int state = NeighborCache.INCOMPLETE; state <= NeighborCache.PROBE; state++) {
                int a = Stage.ENTRY[state];
                Unchanged.on(Stage.BUSY, due, "entryInfo(" + a + ", " + f + ")", NeighborCache.REFUSED,
                    x -> x.entryInfo(a, f));
            }
        }
    }

    // "whether or not an entry for a exists (this test comes first)"
    private static void refusesUnknownFieldsWithoutEntry() {
        for (int f : NO_FIELDS) {
            for (int a : new int[] {Stage.STRANGER, 0, -1, 65536, Integer.MIN_VALUE, Integer.MAX_VALUE}) {
                Unchanged.everywhere(due, "entryInfo(" + a + ", " + f + ")", NeighborCache.REFUSED,
                    x -> x.entryInfo(a, f));
            }
        }
    }

    // "If there is no entry for a [...], INFO_STATE answers NONE and the other fields 0."
    private static void answersNoneWithoutEntry() {
        for (Stage stage : Stage.values()) {
            NeighborCache x = stage.make();
            for (int a : new int[] {1, 21, 22, 23, 31, 41, Stage.STRANGER, 65535}) {
                due.entry(x, a, NeighborCache.NONE, 0, 0, 0, 0);
            }
        }
    }

    // "(or a is not valid)"
    private static void answersNoneNotValid() {
        for (Stage stage : Stage.values()) {
            NeighborCache x = stage.make();
            for (int a : Stage.NOT_VALID) {
                due.entry(x, a, NeighborCache.NONE, 0, 0, 0, 0);
            }
        }
    }

    private static void answersNoneForEntriesThatAreGone() {
        // failed
        NeighborCache x = Stage.FULL.make();
        Make.ticks(x, 70);
        for (int a : new int[] {34, 11, 12, 13}) {
            due.entry(x, a, NeighborCache.NONE, 0, 0, 0, 0);
        }
        // evicted
        x = Stage.MARKED.make();
        x.send(Stage.STRANGER, false);
        due.entry(x, 12, NeighborCache.NONE, 0, 0, 0, 0);
    }

    private static void answersTheEndsOfValid() {
        NeighborCache x = Make.plain();
        Make.reachable(x, 1, 65535);
        Make.reachable(x, 65535, 1);
        due.entry(x, 1, NeighborCache.REACHABLE, 65535, 0, 10, 0);
        due.entry(x, 65535, NeighborCache.REACHABLE, 1, 0, 10, 0);
    }

    // "Nothing changes."
    private static void changesNothing() {
        Unchanged.everywhere(due, "entryInfo", true, x -> {
            for (int a = -1; a <= 60; a++) {
                for (int f = -1; f <= 5; f++) {
                    x.entryInfo(a, f);
                }
            }
            return true;
        });
    }
}
