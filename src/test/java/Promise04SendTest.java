// Promise 4: send, and the terms transmit and packet ids. TermsCacheTest has the term create entry.
public final class Promise04SendTest {
    private static final Due due = new Due();

    public static void main(String[] args) {
        refusesNotValid();
        refusesOffLinkWithoutRouter();
        refusedCallsUseNoId();
        acceptsTheEndsOfValid();
        startsResolution();
        queuesThree();
        pushesTheOldestOutOfAFullQueue();
        transmitsOnReachable();
        transmitsOnStale();
        transmitsOnDelay();
        transmitsOnProbe();
        sendsOffLinkByTheRouter();
        passesMarkedRouters();
        resetsMarksWhenAllAreMarked();
        resetsTheMarkOfAnOnlyRouter();
        leavesMarksOnLink();
        dropsWhenCreationFails();
        dropsOffLinkWhenCreationFails();
        keepsTheMarkResetWhenCreationFails();
        leavesOwnTableAlone();
        due.end();
    }

    // "dst not valid -> REFUSED", off-link or not; on MARKED, where an accepted call would reset
    // the marks, they stay
    private static void refusesNotValid() {
        for (int dst : Stage.NOT_VALID) {
            Unchanged.everywhere(due, "send(" + dst + ", false)", NeighborCache.REFUSED, x -> x.send(dst, false));
            Unchanged.everywhere(due, "send(" + dst + ", true)", NeighborCache.REFUSED, x -> x.send(dst, true));
        }
    }

    // "offLink true and router list empty -> REFUSED"
    private static void refusesOffLinkWithoutRouter() {
        for (int dst : new int[] {1, 9, Stage.STRANGER, 65535}) {
            String call = "send(" + dst + ", true) without a router";
            Unchanged.on(Stage.EMPTY, due, call, NeighborCache.REFUSED, x -> x.send(dst, true));
            Unchanged.by(due, call, NeighborCache.REFUSED, Promise04SendTest::withoutRouter, x -> x.send(dst, true));
        }
    }

    private static NeighborCache withoutRouter() {
        NeighborCache x = Make.plain();
        x.addAddress(5);
        Make.reachable(x, 9, 90);
        x.send(8, false);
        return x;
    }

    // "A refused call changes nothing and uses no packet id."
    private static void refusedCallsUseNoId() {
        NeighborCache x = Make.plain();
        due.is("first accepted send", x.send(9, false), 1);
        due.is("send(9, true) without a router", x.send(9, true), NeighborCache.REFUSED);
        due.is("second accepted send", x.send(9, false), 2);
        x.addRouter(7);
        due.is("send(0, true)", x.send(0, true), NeighborCache.REFUSED);
        due.is("send(65536, false)", x.send(65536, false), NeighborCache.REFUSED);
        due.is("third accepted send", x.send(30, true), 3);
        due.queue(x, 9, 1, 2);
        due.queue(x, 7, 3);
    }

    // "VALID means 1..65535"
    private static void acceptsTheEndsOfValid() {
        NeighborCache x = Make.plain();
        due.is("send(1, false)", x.send(1, false), 1);
        due.is("send(65535, false)", x.send(65535, false), 2);
        due.cache(x, 1, 65535);
        x.addRouter(65535);
        due.is("send(1, true)", x.send(1, true), 3);
        due.is("send(65535, true)", x.send(65535, true), 4);
        due.queue(x, 65535, 2, 3, 4);
    }

    // "E is INCOMPLETE with link 0, probes 1, timer retransTime, queue [p], and NS_MULTI(h) is emitted"
    private static void startsResolution() {
        NeighborCache x = new NeighborCache(4, 10, 6, 3);
        due.is("send(8, false)", x.send(8, false), 1);
        due.is("send(9, false)", x.send(9, false), 2);
        due.cache(x, 8, 9);
        due.entry(x, 8, NeighborCache.INCOMPLETE, 0, 1, 6, 1);
        due.entry(x, 9, NeighborCache.INCOMPLETE, 0, 1, 6, 1);
        due.queue(x, 8, 1);
        due.queue(x, 9, 2);
        due.is("frameCount()", x.frameCount(), 2);
        due.frame(x, 0, NeighborCache.NS_MULTI, 8, 0, 0, 0);
        due.frame(x, 1, NeighborCache.NS_MULTI, 9, 0, 0, 0);
    }

    // "p is appended. No frame is emitted; timer and probes do not change."
    private static void queuesThree() {
        NeighborCache x = waitingHop();
        String frames = View.frames(x);
        due.is("second send", x.send(9, false), 2);
        due.queue(x, 9, 1, 2);
        due.is("third send", x.send(9, false), 3);
        due.queue(x, 9, 1, 2, 3);
        due.is("dropped() by three", x.dropped(), 0);
        due.entry(x, 9, NeighborCache.INCOMPLETE, 0, 3, 2, 2);
        due.same("three in the queue", View.frames(x), frames);
    }

    // "if the queue holds 3, its oldest id is removed and dropped += 1; p is appended"
    private static void pushesTheOldestOutOfAFullQueue() {
        NeighborCache x = waitingHop();
        String frames = View.frames(x);
        x.send(9, false);
        x.send(9, false);
        for (int p = 4; p <= 20; p++) {
            due.is("send into a full queue", x.send(9, false), p);
            due.queue(x, 9, p - 2, p - 1, p);
            due.is("dropped() by packet " + p, x.dropped(), p - 3);
        }
        due.entry(x, 9, NeighborCache.INCOMPLETE, 0, 3, 2, 2);
        due.same("pushes", View.frames(x), frames);
    }

    // An object with packet 1 waiting for 9, some time gone.
    private static NeighborCache waitingHop() {
        NeighborCache x = new NeighborCache(4, 10, 3, 3);
        x.send(9, false);
        Make.ticks(x, 4);
        due.entry(x, 9, NeighborCache.INCOMPLETE, 0, 1, 2, 2);
        return x;
    }

    // "In REACHABLE, DELAY or PROBE, transmitting changes nothing in E.", also with the timer at 1
    private static void transmitsOnReachable() {
        NeighborCache x = Make.plain();
        Make.reachable(x, 9, 90);
        Make.ticks(x, 9);
        due.is("send on REACHABLE", x.send(9, false), 2);
        due.frame(x, 2, NeighborCache.DATA, 9, 90, 2, 9);
        due.is("frameCount()", x.frameCount(), 3);
        due.entry(x, 9, NeighborCache.REACHABLE, 90, 0, 1, 0);
    }

    // "if E is STALE, E becomes DELAY with timer DELAY_TIME, probes 0"
    private static void transmitsOnStale() {
        NeighborCache x = Make.plain();
        Make.stale(x, 9, 90);
        due.entry(x, 9, NeighborCache.STALE, 90, 0, 0, 0);
        due.is("send on STALE", x.send(9, false), 2);
        due.frame(x, 2, NeighborCache.DATA, 9, 90, 2, 9);
        due.is("frameCount()", x.frameCount(), 3);
        due.entry(x, 9, NeighborCache.DELAY, 90, 0, 5, 0);
    }

    private static void transmitsOnDelay() {
        NeighborCache x = Make.plain();
        Make.delay(x, 9, 90);
        Make.ticks(x, 4);
        due.is("send on DELAY", x.send(9, false), 2);
        due.frame(x, 2, NeighborCache.DATA, 9, 90, 2, 9);
        due.is("frameCount()", x.frameCount(), 3);
        due.entry(x, 9, NeighborCache.DELAY, 90, 0, 1, 0);
    }

    private static void transmitsOnProbe() {
        NeighborCache x = Make.plain();
        Make.probe(x, 9, 90);
        Make.ticks(x, 5);
        due.entry(x, 9, NeighborCache.PROBE, 90, 0, 1, 3);
        int frames = x.frameCount();
        due.is("send on PROBE", x.send(9, false), 2);
        due.frame(x, frames, NeighborCache.DATA, 9, 90, 2, 9);
        due.is("frames by send on PROBE", x.frameCount(), frames + 1);
        due.entry(x, 9, NeighborCache.PROBE, 90, 0, 1, 3);
    }

    // "The destination of a packet is the dst of the send call that produced it."
    private static void sendsOffLinkByTheRouter() {
        NeighborCache x = Make.plain();
        x.addRouter(7);
        x.addRouter(8);
        due.is("send(31, true)", x.send(31, true), 1);
        due.is("send(7, false)", x.send(7, false), 2);
        due.is("send(32, true)", x.send(32, true), 3);
        due.cache(x, 7);
        due.queue(x, 7, 1, 2, 3);
        due.frame(x, 0, NeighborCache.NS_MULTI, 7, 0, 0, 0);
        due.is("frameCount()", x.frameCount(), 1);
        x.receiveNA(7, 70, NeighborCache.FLAG_SOLICITED);
        due.frame(x, 1, NeighborCache.DATA, 31, 70, 1, 7);
        due.frame(x, 2, NeighborCache.DATA, 7, 70, 2, 7);
        due.frame(x, 3, NeighborCache.DATA, 32, 70, 3, 7);
        due.is("send(30, true) when resolved", x.send(30, true), 4);
        due.frame(x, 4, NeighborCache.DATA, 30, 70, 4, 7);
        due.cache(x, 7);
    }

    // A full list whose first routers are marked, by their failure.
    private static NeighborCache withMarked(int cacheSize, int routers, int marked) {
        NeighborCache x = new NeighborCache(cacheSize, 10, 1, 1);
        for (int r = 1; r <= routers; r++) {
            x.addRouter(r);
        }
        for (int r = 1; r <= marked; r++) {
            x.send(r, false);
            x.tick();
        }
        return x;
    }

    // "then h is the selected router"; marks stay as long as one router is not marked
    private static void passesMarkedRouters() {
        for (int marked = 0; marked < 4; marked++) {
            NeighborCache x = withMarked(4, 4, marked);
            String routers = View.routers(x);
            due.is("send with " + marked + " marked", x.send(30, true), marked + 1);
            due.cache(x, marked + 1);
            due.same("send with " + marked + " marked", View.routers(x), routers);
        }
    }

    // "if all routers are marked, all marks become 0 first; then h is the selected router"
    private static void resetsMarksWhenAllAreMarked() {
        NeighborCache x = withMarked(4, 4, 4);
        due.marks(x, 1, 1, 1, 1);
        due.is("send with all marked", x.send(30, true), 5);
        due.marks(x, 0, 0, 0, 0);
        due.cache(x, 1);
        due.queue(x, 1, 5);
    }

    private static void resetsTheMarkOfAnOnlyRouter() {
        NeighborCache x = withMarked(4, 1, 1);
        due.marks(x, 1);
        due.is("send with the one marked", x.send(30, true), 2);
        due.marks(x, 0);
        due.cache(x, 1);
    }

    // "Marks are not touched when offLink is false."
    private static void leavesMarksOnLink() {
        for (int dst : new int[] {Stage.STRANGER, Stage.ENTRY[NeighborCache.STALE], 31, 32, 33, 34}) {
            NeighborCache x = Stage.MARKED.make();
            x.send(dst, false);
            due.marks(x, 1, 1, 1, 1);
        }
        NeighborCache x = withMarked(2, 4, 4);
        x.send(8, false);
        x.send(9, false);
        x.send(10, false);
        due.marks(x, 1, 1, 1, 1);
    }

    // "If creation fails, dropped += 1, the cache is unchanged and no frame is emitted; id p stays used"
    private static void dropsWhenCreationFails() {
        NeighborCache x = Stage.FULL.make();
        NeighborCache twin = Stage.FULL.make();
        for (int i = 0; i < 3; i++) {
            // "The answer is p in every accepted case, including when creation fails."
            due.is("send without room", x.send(Stage.STRANGER + i, false), 76 + i);
            due.is("dropped()", x.dropped(), twin.dropped() + 1 + i);
        }
        due.same("send without room: the cache", View.cache(x), View.cache(twin));
        due.same("send without room: the frames", View.frames(x), View.frames(twin));
        due.same("send without room: the routers", View.routers(x), View.routers(twin));
        due.is("next id", x.send(11, false), 79);
    }

    private static void dropsOffLinkWhenCreationFails() {
        NeighborCache x = withMarked(2, 2, 1);
        x.send(8, false);
        x.send(9, false);
        String cache = View.cache(x);
        String frames = View.frames(x);
        due.is("send(30, true) without room", x.send(30, true), 4);
        due.is("dropped()", x.dropped(), 2);
        due.same("send(30, true) without room", View.cache(x), cache);
        due.same("send(30, true) without room", View.frames(x), frames);
        due.marks(x, 1, 0);
    }

    // "any mark reset done earlier in this call stays"
    private static void keepsTheMarkResetWhenCreationFails() {
        NeighborCache x = withMarked(2, 4, 4);
        x.send(8, false);
        x.send(9, false);
        String cache = View.cache(x);
        String frames = View.frames(x);
        due.marks(x, 1, 1, 1, 1);
        due.is("send without room, all marked", x.send(30, true), 7);
        due.marks(x, 0, 0, 0, 0);
        due.is("dropped()", x.dropped(), 5);
        due.same("send without room, all marked", View.cache(x), cache);
        due.same("send without room, all marked", View.frames(x), frames);
        due.is("next id", x.send(8, false), 8);
    }

    // "Own table is never changed.", not even by a packet to an own address
    private static void leavesOwnTableAlone() {
        for (Stage stage : new Stage[] {Stage.BUSY, Stage.FULL}) {
            NeighborCache x = stage.make();
            String own = View.own(x);
            x.send(Stage.STRANGER, false);
            x.send(Stage.STRANGER, true);
            x.send(Stage.ENTRY[1], false);
            for (int state = NeighborCache.TENTATIVE; state <= NeighborCache.DUPLICATE; state++) {
                x.send(Stage.OWN[state], false);
            }
            due.same("send", View.own(x), own);
        }
        NeighborCache x = Make.plain();
        x.addAddress(5);
        due.is("send to an own address", x.send(5, false), 1);
        due.entry(x, 5, NeighborCache.INCOMPLETE, 0, 1, 2, 1);
    }
}
