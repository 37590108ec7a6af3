import java.util.Arrays;

// The section 'What it is' of the document, told as runs of several calls. FaceTest has the
// constants, the tests of the promises have the edges.
public final class OverviewTest {
    private static final Due due = new Due();

    public static void main(String[] args) {
        timePassesOnlyByTick();
        sendsAtOnceWhenTheLinkIsKnown();
        waitsWhileSolicitationsAreRetransmitted();
        releasesInOrderOnResolution();
        dropsOnFailure();
        choosesTheFirstUnmarkedRouter();
        prefersAfterTheLastProbe();
        isDuplicateIfClaimedOrProbed();
        logsEveryFrame();
        due.end();
    }

    // "Time passes only through tick()."
    private static void timePassesOnlyByTick() {
        NeighborCache x = Stage.BUSY.make();
        int[] before = timers(x);
        for (int i = 0; i < 100; i++) {
            x.addAddress(24);
            x.addRouter(33);
            x.send(16, false);
            x.send(45, true);
            x.receiveNA(16, 160, NeighborCache.FLAG_SOLICITED);
            x.receiveNS(16, Stage.OWN[NeighborCache.PREFERRED], 160);
            x.confirm(16);
            View.of(x);
        }
        due.answer("timers", Arrays.toString(timers(x)), Arrays.toString(before));
        due.entry(x, 16, NeighborCache.REACHABLE, 160, 0, 20, 0);
        due.own(x, 24, NeighborCache.TENTATIVE, 2, 1);
    }

    // Of the entries and the own addresses that BUSY has.
    private static int[] timers(NeighborCache x) {
        int[] timers = new int[9];
        int n = 0;
        for (int state = NeighborCache.INCOMPLETE; state <= NeighborCache.PROBE; state++) {
            timers[n++] = x.entryInfo(Stage.ENTRY[state], NeighborCache.INFO_TIMER);
        }
        timers[n++] = x.entryInfo(Stage.FIRST_ROUTER + 1, NeighborCache.INFO_TIMER);
        for (int state = NeighborCache.TENTATIVE; state <= NeighborCache.DUPLICATE; state++) {
            timers[n++] = x.addressInfo(Stage.OWN[state], NeighborCache.ADDR_TIMER);
        }
        return timers;
    }

    // "Packets handed to it are sent at once when the link-layer address of the next hop is known."
    private static void sendsAtOnceWhenTheLinkIsKnown() {
        for (int state = NeighborCache.REACHABLE; state <= NeighborCache.PROBE; state++) {
            for (boolean offLink : new boolean[] {false, true}) {
                NeighborCache x = Make.plain();
                x.addRouter(9);
                Make.inState(x, state, 9, 90);
                int n = x.frameCount();
                due.is("state to start from", x.entryInfo(9, NeighborCache.INFO_STATE), state);
                int dst = offLink ? 30 : 9;
                due.is("send in " + state, x.send(dst, offLink), 2);
                due.is("frames by send in " + state, x.frameCount(), n + 1);
                due.frame(x, n, NeighborCache.DATA, dst, 90, 2, 9);
            }
        }
    }

    // "Otherwise the next hop gets an INCOMPLETE entry: up to three packets wait in its queue while
    // multicast solicitations are retransmitted on a timer."
    private static void waitsWhileSolicitationsAreRetransmitted() {
        NeighborCache x = Make.plain();
        for (int p = 1; p <= 3; p++) {
            x.send(9, false);
            due.entry(x, 9, NeighborCache.INCOMPLETE, 0, p, 2, p);
            due.is("frameCount()", x.frameCount(), p);
            due.frame(x, p - 1, NeighborCache.NS_MULTI, 9, 0, 0, 0);
            if (p < 3) {
                Make.ticks(x, 2);
            }
        }
        due.queue(x, 9, 1, 2, 3);
        due.is("dropped() by three", x.dropped(), 0);
    }

    // "Waiting packets are released in order on resolution", whichever message brings it
    private static void releasesInOrderOnResolution() {
        for (boolean byNS : new boolean[] {false, true}) {
            NeighborCache x = Make.plain();
            Make.preferred(x, 5);
            x.addRouter(9);
            x.send(30, true);
            x.send(9, false);
            x.tick();
            x.send(31, true);
            int n = x.frameCount();
            if (byNS) {
                x.receiveNS(9, 5, 90);
            } else {
                x.receiveNA(9, 90, NeighborCache.FLAG_SOLICITED);
            }
            due.frame(x, n, NeighborCache.DATA, 30, 90, 1, 9);
            due.frame(x, n + 1, NeighborCache.DATA, 9, 90, 2, 9);
            due.frame(x, n + 2, NeighborCache.DATA, 31, 90, 3, 9);
            due.queue(x, 9);
            due.is("dropped()", x.dropped(), 0);
        }
    }

    // "and dropped on failure"; "A next hop that fails is deleted"
    private static void dropsOnFailure() {
        NeighborCache x = Make.plain();
        for (int i = 0; i < 3; i++) {
            x.send(9, false);
        }
        Make.ticks(x, 5);
        due.queue(x, 9, 1, 2, 3);
        x.tick();
        due.cache(x);
        due.is("dropped()", x.dropped(), 3);
        due.yes("an answer that comes too late", x.receiveNA(9, 90, NeighborCache.FLAG_SOLICITED));
        due.is("frames, all of them solicitations", x.frameCount(), 3);
    }

    // "if its address is in the router list that router is marked, and the first unmarked router in
    // list order is the one chosen": one after the other they fail, then it is the first again
    private static void choosesTheFirstUnmarkedRouter() {
        NeighborCache x = Make.plain();
        for (int r = 6; r <= 9; r++) {
            x.addRouter(r);
        }
        for (int r = 6; r <= 9; r++) {
            due.is("defaultRouter()", x.defaultRouter(), r);
            x.send(30, true);
            due.cache(x, r);
            // the second half of them answers at first, and fails by its probes
            if (r >= 8) {
                x.receiveNA(r, 10 * r, 0);
                Make.ticks(x, NeighborCache.DELAY_TIME);
            }
            Make.ticks(x, 6);
            due.cache(x);
        }
        due.marks(x, 1, 1, 1, 1);
        due.is("defaultRouter() with all marked", x.defaultRouter(), 6);
        x.send(30, true);
        due.cache(x, 6);
        due.marks(x, 0, 0, 0, 0);
        due.is("dropped() by those that never answered", x.dropped(), 2);
    }

    // "Own tentative addresses send duplicate-address probes and become PREFERRED after the last one"
    private static void prefersAfterTheLastProbe() {
        NeighborCache x = Make.plain();
        x.addAddress(5);
        for (int sent = 1; sent <= 3; sent++) {
            due.own(x, 5, NeighborCache.TENTATIVE, 2, sent);
            due.frame(x, sent - 1, NeighborCache.NS_DAD, 5, 0, 0, 0);
            Make.ticks(x, 2);
        }
        due.own(x, 5, NeighborCache.PREFERRED, 0, 3);
        due.is("frameCount()", x.frameCount(), 3);
    }

    // "or DUPLICATE if another node claims or probes them"
    private static void isDuplicateIfClaimedOrProbed() {
        for (boolean claimed : new boolean[] {false, true}) {
            NeighborCache x = Make.plain();
            x.addAddress(4);
            x.addAddress(5);
            if (claimed) {
                x.receiveNA(5, 50, 0);
            } else {
                x.receiveNS(0, 5, 0);
            }
            due.own(x, 5, NeighborCache.DUPLICATE, 0, 1);
            Make.ticks(x, 100);
            due.own(x, 5, NeighborCache.DUPLICATE, 0, 1);
            due.own(x, 4, NeighborCache.PREFERRED, 0, 3);
        }
    }

    // "Every emitted frame is logged", one of each kind in a single run
    private static void logsEveryFrame() {
        NeighborCache x = Make.plain();
        Make.preferred(x, 5);
        Make.probe(x, 9, 90);
        x.receiveNS(8, 5, 80);
        int[] kinds = {NeighborCache.NS_DAD, NeighborCache.NS_DAD, NeighborCache.NS_DAD,
            NeighborCache.NS_MULTI, NeighborCache.DATA, NeighborCache.NS_UNI, NeighborCache.NA};
        due.is("frameCount()", x.frameCount(), kinds.length);
        for (int n = 0; n < kinds.length; n++) {
            due.is("kind of frame " + n, x.frameField(n, NeighborCache.FIELD_KIND), kinds[n]);
        }
    }
}
