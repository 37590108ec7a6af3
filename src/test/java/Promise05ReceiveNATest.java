// Promise 5: receiveNA, and the term flush.
public final class Promise05ReceiveNATest {
    private static final int SOLICITED = NeighborCache.FLAG_SOLICITED;
    private static final int OVERRIDE = NeighborCache.FLAG_OVERRIDE;
    private static final Due due = new Due();

    public static void main(String[] args) {
        refuses();
        endsTentativeOwn();
        ignoresUnknown();
        resolvesIncomplete();
        keepsIncompleteWithoutLink();
        releasesInOrder();
        otherLinkWithoutOverride();
        otherLinkWithOverride();
        sameOrNoLink();
        ignoresOtherBits();
        due.end();
    }

    private static void refuses() {
        NeighborCache x = Make.plain();
        x.addAddress(5);
        x.send(9, false);
        String before = View.of(x);
        for (int bad : new int[] {-1, 65536, Integer.MIN_VALUE, Integer.MAX_VALUE}) {
            due.no("receiveNA(" + bad + ", 1, 3)", x.receiveNA(bad, 1, 3));
            due.no("receiveNA(9, " + bad + ", 3)", x.receiveNA(9, bad, 3));
            due.no("receiveNA(5, " + bad + ", 3)", x.receiveNA(5, bad, 3));
        }
        due.no("receiveNA(0, 1, 3)", x.receiveNA(0, 1, 3));
        due.same("refused receiveNA", View.of(x), before);
    }

    private static void endsTentativeOwn() {
        NeighborCache x = Make.plain();
        Make.preferred(x, 4);
        x.addAddress(5);
        x.send(5, false);
        x.send(4, false);
        due.yes("receiveNA(5, 50, 3)", x.receiveNA(5, 50, SOLICITED | OVERRIDE));
        due.own(x, 5, NeighborCache.DUPLICATE, 0, 1);
        due.entry(x, 5, NeighborCache.INCOMPLETE, 0, 1, 2, 1);
        String before = View.of(x);
        due.yes("receiveNA on a DUPLICATE one", x.receiveNA(5, 50, SOLICITED));
        due.yes("receiveNA on a PREFERRED one", x.receiveNA(4, 50, SOLICITED));
        due.same("receiveNA on an own address", View.of(x), before);
        x.addAddress(6);
        due.yes("receiveNA(6, 0, 0)", x.receiveNA(6, 0, 0));
        due.own(x, 6, NeighborCache.DUPLICATE, 0, 1);
    }

    private static void ignoresUnknown() {
        NeighborCache x = Make.plain();
        x.send(9, false);
        String before = View.of(x);
        due.yes("receiveNA(1, 1, 3)", x.receiveNA(1, 1, 3));
        due.yes("receiveNA(65535, 65535, 3)", x.receiveNA(65535, 65535, 3));
        due.same("receiveNA on an unknown address", View.of(x), before);
    }

    private static void resolvesIncomplete() {
        for (int flags = 0; flags < 4; flags++) {
            NeighborCache x = Make.plain();
            x.send(9, false);
            x.tick();
            due.yes("receiveNA(9, 65535, " + flags + ")", x.receiveNA(9, 65535, flags));
            if ((flags & SOLICITED) != 0) {
                due.entry(x, 9, NeighborCache.REACHABLE, 65535, 0, 10, 0);
            } else {
                // the flush turns STALE into DELAY
                due.entry(x, 9, NeighborCache.DELAY, 65535, 0, 5, 0);
            }
            due.is("frameCount()", x.frameCount(), 2);
            due.frame(x, 1, NeighborCache.DATA, 9, 65535, 1, 9);
            due.is("dropped()", x.dropped(), 0);
        }
    }

    private static void keepsIncompleteWithoutLink() {
        NeighborCache x = Make.plain();
        x.send(9, false);
        x.tick();
        String before = View.of(x);
        for (int flags = 0; flags < 4; flags++) {
            due.yes("receiveNA(9, 0, " + flags + ")", x.receiveNA(9, 0, flags));
        }
        due.same("receiveNA without a link", View.of(x), before);
    }

    private static void releasesInOrder() {
        NeighborCache x = Make.plain();
        x.addRouter(9);
        x.send(9, false);
        x.send(31, true);
        x.send(32, true);
        x.send(33, true);
        due.yes("receiveNA(9, 90, 0)", x.receiveNA(9, 90, 0));
        due.is("frameCount()", x.frameCount(), 4);
        due.frame(x, 1, NeighborCache.DATA, 31, 90, 2, 9);
        due.frame(x, 2, NeighborCache.DATA, 32, 90, 3, 9);
        due.frame(x, 3, NeighborCache.DATA, 33, 90, 4, 9);
        due.entry(x, 9, NeighborCache.DELAY, 90, 0, 5, 0);
        due.queue(x, 9);
        due.is("dropped()", x.dropped(), 1);
    }

    // An object whose entry for 9 has the given state and link 90, a tick old where it has a timer.
    private static NeighborCache inState(int state) {
        NeighborCache x = Make.plain();
        x.addRouter(9);
        Make.inState(x, state, 9, 90);
        x.tick();
        due.is("state to start from", x.entryInfo(9, NeighborCache.INFO_STATE), state);
        return x;
    }

    private static void otherLinkWithoutOverride() {
        for (int state = NeighborCache.REACHABLE; state <= NeighborCache.PROBE; state++) {
            for (int flags : new int[] {0, SOLICITED}) {
                NeighborCache x = inState(state);
                String before = View.of(x);
                due.yes("receiveNA(9, 91, " + flags + ") in " + state, x.receiveNA(9, 91, flags));
                if (state == NeighborCache.REACHABLE) {
                    due.entry(x, 9, NeighborCache.STALE, 90, 0, 0, 0);
                } else {
                    due.same("receiveNA of another link in " + state, View.of(x), before);
                }
            }
        }
    }

    private static void otherLinkWithOverride() {
        for (int state = NeighborCache.REACHABLE; state <= NeighborCache.PROBE; state++) {
            NeighborCache x = inState(state);
            int frames = x.frameCount();
            due.yes("receiveNA(9, 91, 2) in " + state, x.receiveNA(9, 91, OVERRIDE));
            due.entry(x, 9, NeighborCache.STALE, 91, 0, 0, 0);
            due.is("frames by receiveNA", x.frameCount(), frames);

            x = inState(state);
            due.yes("receiveNA(9, 91, 3) in " + state, x.receiveNA(9, 91, OVERRIDE | SOLICITED));
            due.entry(x, 9, NeighborCache.REACHABLE, 91, 0, 10, 0);
            due.is("frames by receiveNA", x.frameCount(), frames);
            due.marks(x, 0);
        }
    }

    private static void sameOrNoLink() {
        for (int state = NeighborCache.REACHABLE; state <= NeighborCache.PROBE; state++) {
            for (int link : new int[] {0, 90}) {
                for (int flags = 0; flags < 4; flags++) {
                    NeighborCache x = inState(state);
                    String before = View.of(x);
                    due.yes("receiveNA(9, " + link + ", " + flags + ")", x.receiveNA(9, link, flags));
                    if ((flags & SOLICITED) != 0) {
                        due.entry(x, 9, NeighborCache.REACHABLE, 90, 0, 10, 0);
                    } else {
                        due.same("receiveNA without news in " + state, View.of(x), before);
                    }
                }
            }
        }
    }

    private static void ignoresOtherBits() {
        NeighborCache x = Make.plain();
        x.send(9, false);
        due.yes("receiveNA(9, 90, ~1)", x.receiveNA(9, 90, ~SOLICITED));
        due.entry(x, 9, NeighborCache.DELAY, 90, 0, 5, 0);
        due.yes("receiveNA(9, 91, ~3)", x.receiveNA(9, 91, ~(SOLICITED | OVERRIDE)));
        due.entry(x, 9, NeighborCache.DELAY, 90, 0, 5, 0);
        due.yes("receiveNA(9, 92, -1)", x.receiveNA(9, 92, -1));
        due.entry(x, 9, NeighborCache.REACHABLE, 92, 0, 10, 0);
        due.yes("receiveNA(9, 93, 4)", x.receiveNA(9, 93, 4));
        due.entry(x, 9, NeighborCache.STALE, 92, 0, 0, 0);
    }
}
