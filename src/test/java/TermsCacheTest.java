// The terms cache, create entry and fail: age order, a full cache, a full queue, and what is lost
// when an entry goes.
public final class TermsCacheTest {
    private static final int[] SIZES = {2, 3, 16};
    private static final Due due = new Due();

    public static void main(String[] args) {
        deletesNothingWhileNotFull();
        evictsTheFirstNotIncomplete();
        evictsEveryStateButIncomplete();
        evictsForANeighbourThatAsks();
        failsToCreateAmongIncomplete();
        keepsOneEntryPerAddress();
        keepsOrderWhenAnEntryFails();
        newEntriesHaveNoLinkAndNoOldQueue();
        queuesHoldThree();
        queuesAreEmptyOnceResolved();
        failDropsWhatIsQueued();
        failMarksTheRouter();
        failMarksNoOther();
        due.end();
    }

    private static NeighborCache sized(int cacheSize) {
        return new NeighborCache(cacheSize, 60, 10, 5);
    }

    // "when the cache is not full nothing is deleted"; "A new entry is appended last."
    private static void deletesNothingWhileNotFull() {
        for (int size = 2; size <= 16; size++) {
            NeighborCache x = sized(size);
            for (int a = 1; a < size; a++) {
                Make.reachable(x, a, 90);
            }
            String before = View.cache(x);
            int p = x.send(100, false);
            due.same("the last free place of " + size, View.cache(x),
                before + " entry 100: 1 0 1 10 1 p" + p + "\n");
            due.is("dropped()", x.dropped(), 0);
        }
    }

    // Entries 1 to size, those before the given one INCOMPLETE, it and those behind it REACHABLE.
    // The own address 500 is PREFERRED.
    private static NeighborCache resolvedFrom(int size, int first) {
        NeighborCache x = sized(size);
        x.addRouter(first);
        x.addAddress(500);
        Make.ticks(x, 50);
        for (int a = 1; a <= size; a++) {
            sendTimes(x, a, 2);
            if (a >= first) {
                x.receiveNA(a, 90, NeighborCache.FLAG_SOLICITED);
            }
        }
        return x;
    }

    // "if the cache holds cacheSize entries, the first entry in age order whose state is not INCOMPLETE
    // is deleted (nothing dropped, no mark)"; "the others keep their order"
    private static void evictsTheFirstNotIncomplete() {
        for (int size : SIZES) {
            for (int first = 1; first <= size; first++) {
                NeighborCache x = resolvedFrom(size, first);
                String before = View.cache(x);
                int frames = x.frameCount();
                int p = x.send(100, false);
                due.same("eviction of " + first + " of " + size, View.cache(x),
                    before.replace(" entry " + first + ": 2 90 0 60 0\n", "")
                    + " entry 100: 1 0 1 10 1 p" + p + "\n");
                due.is("entries", x.entryAt(size - 1), 100);
                due.is("entries end", x.entryAt(size), 0);
                due.is("dropped()", x.dropped(), 0);
                due.marks(x, 0);
                due.is("frames", x.frameCount(), frames + 1);
                due.frame(x, frames, NeighborCache.NS_MULTI, 100, 0, 0, 0);
            }
        }
    }

    // "whose state is not INCOMPLETE": each of the other four makes room
    private static void evictsEveryStateButIncomplete() {
        for (int state = NeighborCache.REACHABLE; state <= NeighborCache.PROBE; state++) {
            NeighborCache x = sized(3);
            x.addRouter(2);
            x.send(1, false);
            Make.inState(x, state, 2, 20);
            Make.reachable(x, 3, 30);
            due.is("state to start from", x.entryInfo(2, NeighborCache.INFO_STATE), state);
            x.send(4, false);
            due.cache(x, 1, 3, 4);
            due.queue(x, 1, 1);
            due.entry(x, 3, NeighborCache.REACHABLE, 30, 0, 60, 0);
            due.is("dropped()", x.dropped(), 0);
            due.marks(x, 0);
        }
    }

    private static void evictsForANeighbourThatAsks() {
        for (int size : SIZES) {
            for (int first = 1; first <= size; first++) {
                NeighborCache x = resolvedFrom(size, first);
                String before = View.cache(x);
                due.yes("receiveNS(100, 500, 91)", x.receiveNS(100, 500, 91));
                due.same("eviction by receiveNS of " + first + " of " + size, View.cache(x),
                    before.replace(" entry " + first + ": 2 90 0 60 0\n", "") + " entry 100: 3 91 0 0 0\n");
                due.is("entries", x.entryAt(size - 1), 100);
                due.is("entries end", x.entryAt(size), 0);
                due.is("dropped()", x.dropped(), 0);
                due.marks(x, 0);
            }
        }
    }

    // "if no such entry exists creation FAILS and the cache is unchanged"
    private static void failsToCreateAmongIncomplete() {
        for (int size : SIZES) {
            NeighborCache x = sized(size);
            for (int a = 1; a <= size; a++) {
                x.send(a, false);
            }
            String cache = View.cache(x);
            String frames = View.frames(x);
            due.is("send without room", x.send(100, false), size + 1);
            due.same("send without room", View.cache(x), cache);
            due.same("send without room", View.frames(x), frames);
            due.is("dropped()", x.dropped(), 1);
            // once one of them is resolved there is room again
            x.receiveNA(size, 90, NeighborCache.FLAG_SOLICITED);
            due.is("send with room", x.send(100, false), size + 2);
            due.is("entryAt of the new one", x.entryAt(size - 1), 100);
            due.is("dropped() then", x.dropped(), 1);
        }
    }

    // "There is at most one entry per address.": a full cache makes no room for an address it knows
    private static void keepsOneEntryPerAddress() {
        for (int state = NeighborCache.REACHABLE; state <= NeighborCache.PROBE; state++) {
            NeighborCache x = sized(3);
            Make.reachable(x, 1, 10);
            Make.inState(x, state, 2, 20);
            x.send(3, false);
            due.is("state to start from", x.entryInfo(2, NeighborCache.INFO_STATE), state);
            due.cache(x, 1, 2, 3);
            for (int a = 1; a <= 3; a++) {
                x.send(a, false);
                x.receiveNA(a, 90, NeighborCache.FLAG_OVERRIDE);
                x.confirm(a);
                x.send(a, false);
            }
            due.cache(x, 1, 2, 3);
            due.is("dropped()", x.dropped(), 0);
        }
        NeighborCache x = new NeighborCache(2, 60, 2, 3);
        Make.preferred(x, 5);
        Make.reachable(x, 1, 10);
        x.send(2, false);
        x.receiveNS(1, 5, 10);
        x.receiveNS(1, 5, 11);
        x.receiveNS(2, 5, 20);
        due.cache(x, 1, 2);
    }

    // "A deleted entry is removed and the others keep their order.", with all they hold
    private static void keepsOrderWhenAnEntryFails() {
        for (int size : SIZES) {
            for (int failing = 1; failing <= size; failing++) {
                NeighborCache x = new NeighborCache(size, 60, 2, 1);
                for (int a = 1; a < failing; a++) {
                    Make.stale(x, a, 90 + a);
                }
                x.send(failing, false);
                x.tick();
                for (int a = failing + 1; a <= size; a++) {
                    sendTimes(x, a, 1 + a % 3);
                }
                String before = View.cache(x);
                x.tick();
                due.same("failure of " + failing + " of " + size, View.cache(x),
                    before.replaceAll(" entry " + failing + ":.*\n", "").replaceAll(" 2 1 p", " 1 1 p"));
                due.is("dropped()", x.dropped(), 1);
                checkDestinations(x, failing + 1, size);
            }
        }
    }

    private static void sendTimes(NeighborCache x, int a, int times) {
        for (int i = 0; i < times; i++) {
            x.send(a, false);
        }
    }

    // What waits for an entry still goes to where it was sent.
    private static void checkDestinations(NeighborCache x, int from, int to) {
        for (int a = from; a <= to; a++) {
            int first = x.queuedPacket(a, 0);
            int n = x.frameCount();
            x.receiveNA(a, 200 + a, NeighborCache.FLAG_SOLICITED);
            for (int i = 0; i < 1 + a % 3; i++) {
                due.frame(x, n + i, NeighborCache.DATA, a, 200 + a, first + i, a);
            }
        }
    }

    // "link (0 while INCOMPLETE)", also where another entry was before
    private static void newEntriesHaveNoLinkAndNoOldQueue() {
        NeighborCache x = new NeighborCache(2, 60, 2, 1);
        Make.reachable(x, 1, 10);
        Make.reachable(x, 2, 20);
        x.send(3, false);
        x.send(4, false);
        due.entry(x, 3, NeighborCache.INCOMPLETE, 0, 1, 2, 1);
        due.entry(x, 4, NeighborCache.INCOMPLETE, 0, 1, 2, 1);
        x.send(3, false);
        x.send(4, false);
        x.send(4, false);
        Make.ticks(x, 2);
        due.cache(x);
        x.send(1, false);
        x.send(2, false);
        due.entry(x, 1, NeighborCache.INCOMPLETE, 0, 1, 2, 1);
        due.entry(x, 2, NeighborCache.INCOMPLETE, 0, 1, 2, 1);
        due.queue(x, 1, 8);
        due.queue(x, 2, 9);
    }

    // "a FIFO queue of at most 3 packet ids", in each of the most entries that a cache can hold
    private static void queuesHoldThree() {
        NeighborCache x = sized(16);
        for (int a = 1; a <= 16; a++) {
            sendTimes(x, a, 5);
        }
        for (int a = 1; a <= 16; a++) {
            due.queue(x, a, a * 5 - 2, a * 5 - 1, a * 5);
        }
        due.is("dropped()", x.dropped(), 32);
        x.receiveNA(1, 10, NeighborCache.FLAG_SOLICITED);
        due.is("send with the oldest resolved", x.send(17, false), 81);
        for (int a = 2; a <= 16; a++) {
            due.queue(x, a, a * 5 - 2, a * 5 - 1, a * 5);
        }
        due.queue(x, 17, 81);
    }

    // "The queue is non-empty only in INCOMPLETE."
    private static void queuesAreEmptyOnceResolved() {
        for (int state = NeighborCache.REACHABLE; state <= NeighborCache.PROBE; state++) {
            NeighborCache x = Make.plain();
            sendTimes(x, 9, 3);
            Make.inState(x, state, 9, 90);
            due.is("state to start from", x.entryInfo(9, NeighborCache.INFO_STATE), state);
            due.queue(x, 9);
            sendTimes(x, 9, 2);
            due.queue(x, 9);
            due.is("queuedPacket(9, 0)", x.queuedPacket(9, 0), 0);
        }
    }

    // "dropped += number of queued packets of E; E is deleted"
    private static void failDropsWhatIsQueued() {
        for (int queued = 1; queued <= 3; queued++) {
            NeighborCache x = new NeighborCache(4, 10, 1, 1);
            sendTimes(x, 9, queued);
            x.tick();
            due.cache(x);
            due.is("dropped() by a queue of " + queued, x.dropped(), queued);
        }
        // the one pushed out was counted before
        NeighborCache x = new NeighborCache(4, 10, 1, 1);
        sendTimes(x, 9, 4);
        due.is("dropped() by a push", x.dropped(), 1);
        x.tick();
        due.is("dropped() by a push and a failure", x.dropped(), 4);
        // an entry that was resolved has no queue
        x = new NeighborCache(4, 10, 1, 1);
        Make.probe(x, 9, 90);
        x.tick();
        due.cache(x);
        due.is("dropped() by a failed probe", x.dropped(), 0);
    }

    // "if E.address is in the router list, that router's mark becomes 1", wherever it stands in it
    private static void failMarksTheRouter() {
        for (int failing = 1; failing <= 4; failing++) {
            NeighborCache x = withFourRouters();
            x.send(failing, false);
            x.tick();
            due.is("marks", marks(x), 1 << failing);
            // a marked one stays marked
            x.send(failing, false);
            x.tick();
            due.is("marks by a second failure", marks(x), 1 << failing);
            // an entry that was resolved marks too
            x = withFourRouters();
            Make.probe(x, failing, 90);
            x.tick();
            due.is("marks by a failed probe", marks(x), 1 << failing);
        }
    }

    // a failed neighbour that is no router marks none, and its own address stays as it is
    private static void failMarksNoOther() {
        NeighborCache x = withFourRouters();
        x.addAddress(5);
        x.send(5, false);
        x.send(9, false);
        x.tick();
        due.cache(x);
        due.is("marks", marks(x), 0);
        due.own(x, 5, NeighborCache.PREFERRED, 0, 1);
    }

    private static NeighborCache withFourRouters() {
        NeighborCache x = new NeighborCache(4, 10, 1, 1);
        for (int r = 1; r <= 4; r++) {
            x.addRouter(r);
        }
        return x;
    }

    // Bit r for router r, the routers being 1 to 4 in this order.
    private static int marks(NeighborCache x) {
        int marks = 0;
        for (int i = 0; i < 4; i++) {
            marks |= x.routerInfo(i, NeighborCache.ROUTER_MARK) << i + 1;
        }
        return marks;
    }
}
