// Promise 16: dropped.
public final class Promise16DroppedTest {
    private static final Due due = new Due();

    public static void main(String[] args) {
        countsFailedCreation();
        countsPushesOutOfAFullQueue();
        countsQueuesOfFailedEntries();
        countsEveryCause();
        countsNoEviction();
        countsNoRefusedSend();
        countsNothingElse();
        changesNothing();
        due.end();
    }

    // "packets lost because entry creation failed in send"
    private static void countsFailedCreation() {
        NeighborCache x = new NeighborCache(2, 10, 2, 3);
        x.send(8, false);
        x.send(9, false);
        due.is("dropped() with a full cache", x.dropped(), 0);
        for (int i = 1; i <= 10; i++) {
            x.send(10, false);
            due.is("dropped() as creation failed", x.dropped(), i);
        }
    }

    // "oldest ids pushed out of a full queue"
    private static void countsPushesOutOfAFullQueue() {
        NeighborCache x = Make.plain();
        for (int sent = 1; sent <= 10; sent++) {
            x.send(9, false);
            due.is("dropped() by " + sent + " packets", x.dropped(), Math.max(0, sent - 3));
        }
    }

    // "queued packets of entries that fail"
    private static void countsQueuesOfFailedEntries() {
        for (int sent = 1; sent <= 6; sent++) {
            NeighborCache x = new NeighborCache(4, 10, 2, 1);
            for (int i = 0; i < sent; i++) {
                x.send(9, false);
            }
            Make.ticks(x, 2);
            // pushed out or queued to the end, all are lost
            due.is("dropped() of " + sent, x.dropped(), sent);
        }
    }

    private static void countsEveryCause() {
        NeighborCache x = new NeighborCache(2, 10, 2, 1);
        for (int i = 0; i < 5; i++) {
            x.send(8, false);
        }
        due.is("dropped() out of a full queue", x.dropped(), 2);
        x.send(9, false);
        x.send(7, false);
        due.is("dropped() as creation failed", x.dropped(), 3);
        Make.ticks(x, 2);
        due.is("dropped() by two failures", x.dropped(), 7);
    }

    // "Entries deleted to make room never drop packets."
    private static void countsNoEviction() {
        NeighborCache x = new NeighborCache(2, 10, 1, 1);
        for (int a = 1; a <= 10; a++) {
            // what had been queued went out before
            x.send(a, false);
            x.send(a, false);
            Make.reachable(x, a, 90);
        }
        due.cache(x, 9, 10);
        due.is("dropped() by evictions", x.dropped(), 0);
        // nor does the failure of an entry without a queue drop anything
        x.receiveNA(9, 91, NeighborCache.FLAG_OVERRIDE);
        x.send(9, false);
        Make.ticks(x, 6);
        due.cache(x, 10);
        due.is("dropped() by a failed probe", x.dropped(), 0);
    }

    private static void countsNoRefusedSend() {
        NeighborCache x = Make.plain();
        x.send(0, false);
        x.send(65536, false);
        x.send(9, true);
        due.is("dropped() by refused calls", x.dropped(), 0);
    }

    // Neither a flush nor an entry that receiveNS cannot create loses a packet.
    private static void countsNothingElse() {
        NeighborCache x = Stage.FULL.make();
        int dropped = x.dropped();
        x.receiveNS(Stage.STRANGER, Stage.OWN[NeighborCache.PREFERRED], 90);
        x.receiveNA(34, 340, NeighborCache.FLAG_SOLICITED);
        x.receiveNA(11, 110, 0);
        x.receiveNS(12, Stage.OWN[NeighborCache.PREFERRED], 120);
        x.send(34, false);
        due.is("dropped()", x.dropped(), dropped);
    }

    // "Nothing changes."
    private static void changesNothing() {
        Unchanged.everywhere(due, "dropped()", true, x -> x.dropped() >= 0);
    }
}
