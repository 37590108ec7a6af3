// Promise 6: receiveNS.
public final class Promise06ReceiveNSTest {
    private static final Due due = new Due();

    public static void main(String[] args) {
        refusesTargetNotValid();
        refusesSourceOutside();
        refusesLinkOutside();
        refusesLinkOfUnspecified();
        acceptsTheEndsOfTheRanges();
        ignoresUnknownAndDuplicate();
        keepsTentativeWithSource();
        endsTentativeByProbe();
        answersUnspecified();
        answersWithoutLink();
        createsStale();
        createsOnTheLastPlace();
        createsForAnOwnAddress();
        evictsForSource();
        answersWhenCreationFails();
        resolvesIncomplete();
        flushesAFullQueue();
        keepsResolvedWithTheSameLink();
        updatesResolvedWithAnotherLink();
        leavesOwnTableAndRoutersAlone();
        due.end();
    }

    // "It answers false and changes nothing if: t is not valid"
    private static void refusesTargetNotValid() {
        for (int t : Stage.NOT_VALID) {
            Unchanged.everywhere(due, "receiveNS(9, " + t + ", 1)", false, x -> x.receiveNS(9, t, 1));
            Unchanged.everywhere(due, "receiveNS(0, " + t + ", 0)", false, x -> x.receiveNS(0, t, 0));
        }
    }

    // Targets of every kind: own in each state, an entry, a router, a stranger.
    private static final int[] TARGETS = {21, 22, 23, 11, 31, Stage.STRANGER};

    // "or src is outside 0..65535"
    private static void refusesSourceOutside() {
        for (int src : Stage.OUTSIDE) {
            for (int t : TARGETS) {
                String call = "receiveNS(" + src + ", " + t + ", ";
                Unchanged.on(Stage.BUSY, due, call + "1)", false, x -> x.receiveNS(src, t, 1));
                Unchanged.on(Stage.BUSY, due, call + "0)", false, x -> x.receiveNS(src, t, 0));
                Unchanged.on(Stage.FULL, due, call + "1)", false, x -> x.receiveNS(src, t, 1));
            }
        }
    }

    // "or sl is outside 0..65535"
    private static void refusesLinkOutside() {
        for (int sl : Stage.OUTSIDE) {
            for (int t : TARGETS) {
                for (int src : new int[] {0, 11, 12, Stage.STRANGER}) {
                    String call = "receiveNS(" + src + ", " + t + ", " + sl + ")";
                    Unchanged.on(Stage.BUSY, due, call, false, x -> x.receiveNS(src, t, sl));
                    Unchanged.on(Stage.FULL, due, call, false, x -> x.receiveNS(src, t, sl));
                }
            }
        }
    }

    // "or src == 0 and sl != 0"
    private static void refusesLinkOfUnspecified() {
        for (int sl : new int[] {1, 90, 65535}) {
            for (int t : TARGETS) {
                Unchanged.everywhere(due, "receiveNS(0, " + t + ", " + sl + ")", false, x -> x.receiveNS(0, t, sl));
            }
        }
    }

    private static void acceptsTheEndsOfTheRanges() {
        for (int t : new int[] {1, 65535}) {
            NeighborCache x = Make.plain();
            Make.preferred(x, t);
            for (int src : new int[] {2, 65534}) {
                for (int sl : new int[] {1, 65535}) {
                    int n = x.frameCount();
                    due.yes("receiveNS(" + src + ", " + t + ", " + sl + ")", x.receiveNS(src, t, sl));
                    due.entry(x, src, NeighborCache.STALE, sl, 0, 0, 0);
                    due.frame(x, n, NeighborCache.NA, t, sl, 0, src);
                    due.is("frameCount()", x.frameCount(), n + 1);
                }
            }
        }
        NeighborCache x = withPreferred(4);
        due.yes("receiveNS(1, 5, 65535)", x.receiveNS(1, 5, 65535));
        due.yes("receiveNS(65535, 5, 1)", x.receiveNS(65535, 5, 1));
        due.cache(x, 1, 65535);
    }

    // "t not in the own table, or DUPLICATE: nothing changes"
    private static void ignoresUnknownAndDuplicate() {
        for (int t : new int[] {1, Stage.OWN[NeighborCache.DUPLICATE], Stage.ENTRY[1], 31, Stage.STRANGER, 65535}) {
            for (int src : new int[] {11, 12, 13, 34, Stage.STRANGER, 65535}) {
                String call = "receiveNS(" + src + ", " + t + ", ";
                Unchanged.everywhere(due, call + "0)", true, x -> x.receiveNS(src, t, 0));
                Unchanged.everywhere(due, call + "90)", true, x -> x.receiveNS(src, t, 90));
            }
            Unchanged.everywhere(due, "receiveNS(0, " + t + ", 0)", true, x -> x.receiveNS(0, t, 0));
        }
    }

    // "TENTATIVE: if src == 0 [...] else nothing changes"
    private static void keepsTentativeWithSource() {
        int t = Stage.OWN[NeighborCache.TENTATIVE];
        for (int src : new int[] {1, 11, 12, 34, Stage.STRANGER, t, 65535}) {
            for (int sl : new int[] {0, 1, 65535}) {
                String call = "receiveNS(" + src + ", " + t + ", " + sl + ")";
                Unchanged.on(Stage.BUSY, due, call, true, x -> x.receiveNS(src, t, sl));
                Unchanged.on(Stage.FULL, due, call, true, x -> x.receiveNS(src, t, sl));
            }
        }
    }

    // "if src == 0 it becomes DUPLICATE with timer 0"
    private static void endsTentativeByProbe() {
        NeighborCache x = Make.plain();
        x.addAddress(6);
        // the last tick before it would be PREFERRED
        Make.ticks(x, 5);
        due.own(x, 6, NeighborCache.TENTATIVE, 1, 3);
        x.send(9, false);
        String cache = View.cache(x);
        String frames = View.frames(x);
        due.yes("receiveNS(0, 6, 0)", x.receiveNS(0, 6, 0));
        due.own(x, 6, NeighborCache.DUPLICATE, 0, 3);
        due.same("receiveNS(0, 6, 0)", View.cache(x), cache);
        due.same("receiveNS(0, 6, 0)", View.frames(x), frames);
        x.tick();
        due.own(x, 6, NeighborCache.DUPLICATE, 0, 3);
    }

    // An object whose own address 5 is PREFERRED; three frames, no packet.
    private static NeighborCache withPreferred(int cacheSize) {
        NeighborCache x = new NeighborCache(cacheSize, 10, 2, 3);
        Make.preferred(x, 5);
        due.own(x, 5, NeighborCache.PREFERRED, 0, 3);
        due.is("frames to start from", x.frameCount(), 3);
        return x;
    }

    // "if src == 0, NA(t, link 0, hop 0) is emitted and nothing else changes"
    private static void answersUnspecified() {
        for (Stage stage : new Stage[] {Stage.BUSY, Stage.FULL, Stage.MARKED}) {
            NeighborCache x = stage.make();
            NeighborCache twin = stage.make();
            int n = x.frameCount();
            due.yes("receiveNS(0, 22, 0)", x.receiveNS(0, 22, 0));
            due.is("frameCount()", x.frameCount(), n + 1);
            due.frame(x, n, NeighborCache.NA, 22, 0, 0, 0);
            due.same("receiveNS(0, 22, 0)", View.cache(x) + View.own(x) + View.routers(x),
                View.cache(twin) + View.own(twin) + View.routers(twin));
            due.is("dropped()", x.dropped(), twin.dropped());
            due.is("next packet id", x.send(51, false), twin.send(51, false));
        }
    }

    // "(with sl = 0 the link field is 0)"; without a link no entry is made or changed
    private static void answersWithoutLink() {
        NeighborCache x = withPreferred(4);
        due.yes("receiveNS(9, 5, 0) from an unknown source", x.receiveNS(9, 5, 0));
        due.frame(x, 3, NeighborCache.NA, 5, 0, 0, 9);
        due.cache(x);
        x.send(9, false);
        due.yes("receiveNS(9, 5, 0) from an INCOMPLETE source", x.receiveNS(9, 5, 0));
        due.frame(x, 5, NeighborCache.NA, 5, 0, 0, 9);
        due.entry(x, 9, NeighborCache.INCOMPLETE, 0, 1, 2, 1);
        for (int state = NeighborCache.REACHABLE; state <= NeighborCache.PROBE; state++) {
            x = withPreferred(4);
            Make.inState(x, state, 9, 90);
            String cache = View.cache(x);
            int n = x.frameCount();
            due.yes("receiveNS(9, 5, 0) in " + state, x.receiveNS(9, 5, 0));
            due.frame(x, n, NeighborCache.NA, 5, 0, 0, 9);
            due.is("frameCount()", x.frameCount(), n + 1);
            due.same("receiveNS(9, 5, 0)", View.cache(x), cache);
        }
    }

    // "create entry for src; if created, it enters STALE with link sl"
    private static void createsStale() {
        NeighborCache x = withPreferred(4);
        due.yes("receiveNS(9, 5, 90)", x.receiveNS(9, 5, 90));
        due.yes("receiveNS(8, 5, 80)", x.receiveNS(8, 5, 80));
        due.cache(x, 9, 8);
        due.entry(x, 9, NeighborCache.STALE, 90, 0, 0, 0);
        due.entry(x, 8, NeighborCache.STALE, 80, 0, 0, 0);
        due.queue(x, 8);
        due.is("frameCount()", x.frameCount(), 5);
        due.frame(x, 3, NeighborCache.NA, 5, 90, 0, 9);
        due.frame(x, 4, NeighborCache.NA, 5, 80, 0, 8);
        due.is("next packet id", x.send(9, false), 1);
    }

    private static void createsOnTheLastPlace() {
        NeighborCache x = withPreferred(2);
        Make.reachable(x, 8, 80);
        due.yes("receiveNS(9, 5, 90)", x.receiveNS(9, 5, 90));
        due.cache(x, 8, 9);
    }

    // "no entry for src: create entry for src": the document makes no exception of own addresses
    private static void createsForAnOwnAddress() {
        NeighborCache x = withPreferred(4);
        x.addAddress(6);
        due.yes("receiveNS(5, 5, 50)", x.receiveNS(5, 5, 50));
        due.yes("receiveNS(6, 5, 60)", x.receiveNS(6, 5, 60));
        due.entry(x, 5, NeighborCache.STALE, 50, 0, 0, 0);
        due.entry(x, 6, NeighborCache.STALE, 60, 0, 0, 0);
        due.own(x, 5, NeighborCache.PREFERRED, 0, 3);
        due.own(x, 6, NeighborCache.TENTATIVE, 2, 1);
    }

    private static void evictsForSource() {
        NeighborCache x = withPreferred(2);
        x.addRouter(8);
        x.send(7, false);
        Make.reachable(x, 8, 80);
        due.yes("receiveNS(9, 5, 90) with a full cache", x.receiveNS(9, 5, 90));
        due.cache(x, 7, 9);
        due.entry(x, 9, NeighborCache.STALE, 90, 0, 0, 0);
        due.queue(x, 7, 1);
        due.is("dropped()", x.dropped(), 0);
        due.marks(x, 0);
        // a place once used by a queue holds none now
        x.receiveNA(7, 70, NeighborCache.FLAG_SOLICITED);
        due.yes("receiveNS(10, 5, 91)", x.receiveNS(10, 5, 91));
        due.cache(x, 9, 10);
        due.entry(x, 10, NeighborCache.STALE, 91, 0, 0, 0);
        due.queue(x, 10);
    }

    // "(if creation fails nothing is created)"; the NA "is emitted even when creation failed"
    private static void answersWhenCreationFails() {
        NeighborCache x = Stage.FULL.make();
        NeighborCache twin = Stage.FULL.make();
        int n = x.frameCount();
        due.yes("receiveNS(50, 22, 90) without room", x.receiveNS(50, 22, 90));
        due.same("receiveNS without room", View.cache(x), View.cache(twin));
        due.is("frameCount()", x.frameCount(), n + 1);
        due.frame(x, n, NeighborCache.NA, 22, 90, 0, 50);
        due.is("dropped()", x.dropped(), twin.dropped());
        due.same("receiveNS without room", View.routers(x), View.routers(twin));
        due.is("next packet id", x.send(11, false), twin.send(11, false));
    }

    // "E INCOMPLETE: E.link = sl, enter STALE, flush E"; the NA "is emitted after any DATA frames of a flush"
    private static void resolvesIncomplete() {
        NeighborCache x = withPreferred(4);
        x.addRouter(9);
        x.send(9, false);
        x.send(31, true);
        due.yes("receiveNS(9, 5, 90)", x.receiveNS(9, 5, 90));
        due.entry(x, 9, NeighborCache.DELAY, 90, 0, 5, 0);
        due.queue(x, 9);
        due.is("frameCount()", x.frameCount(), 7);
        due.frame(x, 4, NeighborCache.DATA, 9, 90, 1, 9);
        due.frame(x, 5, NeighborCache.DATA, 31, 90, 2, 9);
        due.frame(x, 6, NeighborCache.NA, 5, 90, 0, 9);
        due.is("dropped()", x.dropped(), 0);
    }

    private static void flushesAFullQueue() {
        NeighborCache x = Stage.FULL.make();
        int n = x.frameCount();
        int dropped = x.dropped();
        due.yes("receiveNS(34, 22, 340)", x.receiveNS(34, 22, 340));
        due.frame(x, n, NeighborCache.DATA, 42, 340, 67, 34);
        due.frame(x, n + 1, NeighborCache.DATA, 43, 340, 69, 34);
        due.frame(x, n + 2, NeighborCache.DATA, 44, 340, 71, 34);
        due.frame(x, n + 3, NeighborCache.NA, 22, 340, 0, 34);
        due.is("frameCount()", x.frameCount(), n + 4);
        due.entry(x, 34, NeighborCache.DELAY, 340, 0, 5, 0);
        due.is("dropped()", x.dropped(), dropped);
        due.cache(x, 34, 11, 12, 13);
    }

    // "otherwise nothing changes"
    private static void keepsResolvedWithTheSameLink() {
        for (int state = NeighborCache.REACHABLE; state <= NeighborCache.PROBE; state++) {
            NeighborCache x = withPreferred(4);
            Make.inState(x, state, 9, 90);
            x.tick();
            String cache = View.cache(x);
            int n = x.frameCount();
            due.yes("receiveNS(9, 5, 90) in " + state, x.receiveNS(9, 5, 90));
            due.same("receiveNS(9, 5, 90) in " + state, View.cache(x), cache);
            due.frame(x, n, NeighborCache.NA, 5, 90, 0, 9);
            due.is("frameCount()", x.frameCount(), n + 1);
        }
    }

    // "E in another state with E.link != sl: E.link = sl, enter STALE"
    private static void updatesResolvedWithAnotherLink() {
        for (int state = NeighborCache.REACHABLE; state <= NeighborCache.PROBE; state++) {
            NeighborCache x = withPreferred(4);
            Make.inState(x, state, 9, 90);
            x.tick();
            int n = x.frameCount();
            due.yes("receiveNS(9, 5, 91) in " + state, x.receiveNS(9, 5, 91));
            due.entry(x, 9, NeighborCache.STALE, 91, 0, 0, 0);
            due.frame(x, n, NeighborCache.NA, 5, 91, 0, 9);
            due.is("frameCount()", x.frameCount(), n + 1);
        }
    }

    // "The own table is changed only as stated, the router list is never changed."
    private static void leavesOwnTableAndRoutersAlone() {
        for (Stage stage : new Stage[] {Stage.BUSY, Stage.FULL, Stage.MARKED}) {
            for (int src : new int[] {11, 12, 13, 14, 15, 21, 22, 23, 31, 34, Stage.STRANGER}) {
                NeighborCache x = stage.make();
                NeighborCache twin = stage.make();
                due.yes("receiveNS(" + src + ", 22, 90)", x.receiveNS(src, 22, 90));
                due.same("receiveNS from " + src, View.own(x), View.own(twin));
                due.same("receiveNS from " + src, View.routers(x), View.routers(twin));
                due.is("dropped()", x.dropped(), twin.dropped());
            }
        }
    }
}
